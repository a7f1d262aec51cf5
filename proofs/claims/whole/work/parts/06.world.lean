/-! The world of the machine of 03 in a heap of the JVM's: cell k (from 1 on) lies at n0 + (k - 1), the script at b. -/
def ax_am (n0 b k : Nat) : Nat := if k = 0 then b else n0 + (k - 1)
def ax_v (n0 b : Nat) (v : Value) : Value := match v with
  | .ref k => .ref (ax_am n0 b k)
  | v => v
theorem ax_v_cat (n0 b : Nat) (v : Value) : (ax_v n0 b v).category = v.category := by cases v <;> rfl
def ax_ar (n0 b : Nat) (a : vp_A) : vp_A := (a.1, match a.2 with
  | .inr (.inr (.inr (.inr f))) => .inr (.inr (.inr (.inr (fun j => (f j).map (ax_am n0 b)))))
  | .inl f => .inl f
  | .inr (.inl f) => .inr (.inl f)
  | .inr (.inr (.inl f)) => .inr (.inr (.inl f))
  | .inr (.inr (.inr (.inl f))) => .inr (.inr (.inr (.inl f))))
def ax_e (n0 b : Nat) (cA : Nat → ClassId) (x : ax_E) : va_E := match x with
  | .inl a => .inl (cA a.1, ax_ar n0 b a.2)
  | .inr o => .inr (o.1, (List.range (ax_nf o.1)).map (fun j => ax_v n0 b (o.2 j)))
def ax_tys (cA : Nat → ClassId) : List (ClassId × FieldType) := [(cA 0, .int), (cA 1, .byte), (cA 2, .boolean), (cA 3, .long), (cA 4, .object "GivenSearch$Flat")]
def ax_Nw (U : State) : Prop := ∀ r ∈ ax_MR, ∀ z, ax_Z[r.2.2.1]? = some z → (r.2.2.2.1 = 4 ∨ r.2.2.2.1 = 5) → va_Nw (.methodLinkNest (ax_own r.1) r.2.1 z.1.2.1 r.2.2.2.2.2) U
def ax_K (D : va_G) (cA : Nat → ClassId) (U : State) : Prop := va_K D ax_cl (ax_tys cA) U ∧ va_AO "GivenSearch$Flat" U ∧ ax_Nw U
def ax_W (n0 b : Nat) (D : va_G) (cA : Nat → ClassId) (h : ax_H) (H : Heap) : Prop :=
  H.size + 1 = n0 + h.1 ∧ 1 ≤ h.1 ∧ (∀ k, 1 ≤ k → k < h.1 → va_at D ax_cl (n0 + (k - 1), ax_e n0 b cA (h.2.2 k)) H) ∧ ∀ k, h.1 ≤ k → h.2.2 k = ax_no
def ax_X (n0 b : Nat) (z : ax_E) (U : State) (H : Heap) : Prop := match z with
  | .inl a => a.1 ≤ 4 → a.1 = 0 ∧ b < n0 ∧ ∃ xs : Nat → Int32, a.2.2 = .inl xs ∧ va_X b a.2.1 xs U H
  | .inr _ => False
def ax_A (n0 : Nat) : Nat → Prop := fun q => n0 ≤ q
def ax_lr (n0 b : Nat) (ls : Array Slot) (L : ax_L) : Prop := ls.size = L.length ∧ lv_wf ls ∧ ∀ (i : Nat) (v : Value), L[i]? = some (some v) → ls[i]? = some (.val (ax_v n0 b v))
def ax_en (n0 b : Nat) (L : ax_L) : List (Nat × Value) := (List.range L.length).filterMap (fun i => match L[i]? with
  | some (some v) => some (i, ax_v n0 b v)
  | _ => none)
theorem ax_en_in {n0 b : Nat} {L : ax_L} {i : Nat} {v : Value} (h : L[i]? = some (some v)) : (i, ax_v n0 b v) ∈ ax_en n0 b L := by
  refine List.mem_filterMap.mpr ⟨i, List.mem_range.mpr (List.getElem?_eq_some_iff.mp h).1, ?_⟩
  rw [h]
theorem ax_lr.has {n0 b : Nat} {ls : Array Slot} {L : ax_L} (h : ax_lr n0 b ls L) : lv_has ls L.length (ax_en n0 b L) := by
  refine ⟨h.1, h.2.1, fun q hq => ?_⟩
  obtain ⟨i, -, hi⟩ := List.mem_filterMap.mp hq
  split at hi
  · rename_i v hv
    cases hi
    exact h.2.2 i v hv
  · cases hi
theorem ax_put_len (L : ax_L) (i : Nat) (v : Value) : (ax_put L i v).length = L.length := by
  unfold ax_put
  cases i with
  | zero => dsimp only; split <;> simp
  | succ j =>
    dsimp only
    split <;> (split <;> simp)
    all_goals (first | done | (split <;> simp))
/-- what stands behind a store at another place stood there before, and isn't a long that the store cuts -/
theorem ax_put_at {L : ax_L} {i j : Nat} {v u : Value} (h : (ax_put L i v)[j]? = some (some u)) (hj : j ≠ i) : L[j]? = some (some u) ∧ ¬ (j + 1 = i ∧ u.category = 2) ∧ ¬ (v.category = 2 ∧ j = i + 1) := by
  have h0 : ¬ (v.category = 2 ∧ j = i + 1) := by
    rintro ⟨hc, rfl⟩
    unfold ax_put at h
    dsimp only at h
    rw [if_pos hc, List.getElem?_set] at h
    simp only [if_true] at h
    split at h <;> simp at h
  have h1 : (match i with
    | 0 => L
    | j + 1 => match L[j]? with
      | some (some w) => if w.category = 2 then L.set j none else L
      | _ => L)[j]? = some (some u) := by
    unfold ax_put at h
    dsimp only at h
    by_cases hc : v.category = 2
    · rw [if_pos hc, List.getElem?_set_ne (fun q => h0 ⟨hc, q.symm⟩), List.getElem?_set_ne (Ne.symm hj)] at h
      exact h
    · rw [if_neg hc, List.getElem?_set_ne (Ne.symm hj)] at h
      exact h
  cases i with
  | zero => exact ⟨h1, fun q => by omega, h0⟩
  | succ k =>
    dsimp only at h1
    by_cases hjk : j = k
    · subst hjk
      split at h1
      · rename_i w hw
        split at h1
        · rw [List.getElem?_set] at h1
          simp only [if_true] at h1
          split at h1 <;> simp at h1
        · rename_i hc
          rw [hw] at h1
          have : w = u := by simpa using h1
          subst this
          exact ⟨hw, fun q => hc q.2, h0⟩
      · rename_i hn
        exact absurd h1 (hn u)
    · have h2 : L[j]? = some (some u) := by
        split at h1
        · split at h1
          · rw [List.getElem?_set_ne (Ne.symm hjk)] at h1; exact h1
          · exact h1
        · exact h1
      exact ⟨h2, fun q => hjk (by omega), h0⟩
theorem ax_put_self {L : ax_L} {i : Nat} {v : Value} (hi : i < L.length) : (ax_put L i v)[i]? = some (some v) := by
  unfold ax_put
  dsimp only
  have key : ∀ L1 : ax_L, L1.length = L.length → (if v.category = 2 then (L1.set i (some v)).set (i + 1) none else L1.set i (some v))[i]? = some (some v) := by
    intro L1 h1
    have e1 : (L1.set i (some v))[i]? = some (some v) := by rw [List.getElem?_set_self (by omega)]
    split
    · rw [List.getElem?_set_ne (by omega)]; exact e1
    · exact e1
  apply key
  cases i with
  | zero => rfl
  | succ j =>
    dsimp only
    split
    · split <;> simp
    · rfl
theorem ax_lr.put1 {n0 b : Nat} {ls' : Array Slot} {L : ax_L} {i : Nat} {v : Value} (hi : i < L.length) (hc : v.category = 1) (h : lv_has ls' L.length ((i, ax_v n0 b v) :: (ax_en n0 b L).filter (fun q => !(q.1 == i) && !(q.1 + 1 == i && q.2.category == 2)))) : ax_lr n0 b ls' (ax_put L i v) := by
  refine ⟨by rw [ax_put_len]; exact h.1, h.2.1, fun j u hj => ?_⟩
  by_cases e : j = i
  · subst e
    rw [ax_put_self hi] at hj
    have : v = u := by simpa using hj
    subst this
    exact h.2.2 _ List.mem_cons_self
  · obtain ⟨h1, h2, -⟩ := ax_put_at hj e
    refine h.2.2 (j, ax_v n0 b u) (List.mem_cons_of_mem _ (List.mem_filter.mpr ⟨ax_en_in h1, ?_⟩))
    simp only [ax_v_cat]
    simp only [Bool.and_eq_true, Bool.not_eq_true', beq_eq_false_iff_ne, ne_eq, Bool.and_eq_false_iff]
    exact ⟨e, by by_cases q : j + 1 = i
                 · exact Or.inr fun w => h2 ⟨q, w⟩
                 · exact Or.inl q⟩
theorem ax_lr.put2 {n0 b : Nat} {ls' : Array Slot} {L : ax_L} {i : Nat} {v : Value} (hi : i < L.length) (hc : v.category = 2) (h : lv_has ls' L.length ((i, ax_v n0 b v) :: (ax_en n0 b L).filter (fun q => !(q.1 == i) && (!(q.1 == i + 1) && !(q.1 + 1 == i && q.2.category == 2))))) : ax_lr n0 b ls' (ax_put L i v) := by
  refine ⟨by rw [ax_put_len]; exact h.1, h.2.1, fun j u hj => ?_⟩
  by_cases e : j = i
  · subst e
    rw [ax_put_self hi] at hj
    have : v = u := by simpa using hj
    subst this
    exact h.2.2 _ List.mem_cons_self
  · obtain ⟨h1, h2, h3⟩ := ax_put_at hj e
    refine h.2.2 (j, ax_v n0 b u) (List.mem_cons_of_mem _ (List.mem_filter.mpr ⟨ax_en_in h1, ?_⟩))
    simp only [ax_v_cat]
    simp only [Bool.and_eq_true, Bool.not_eq_true', beq_eq_false_iff_ne, ne_eq, Bool.and_eq_false_iff]
    exact ⟨e, fun q => h3 ⟨hc, q⟩, by by_cases q : j + 1 = i
                                      · exact Or.inr fun w => h2 ⟨q, w⟩
                                      · exact Or.inl q⟩
/-! moving K, X -/
theorem ax_K.warm {D : va_G} {cA : Nat → ClassId} {s U : State} (hW : s.WarmedH U.vm) (h : ax_K D cA s) : ax_K D cA U :=
  ⟨va_K.moved hW.alike h.1, va_AO.moved hW.alike h.2.1, fun r hr z hz hk => va_Nw.warmM hW (h.2.2 r hr z hz hk)⟩
theorem ax_K.calling {D : va_G} {cA : Nat → ClassId} {U : State} (h : ax_K D cA U) (g : JFrame) (mk : MethodId) (a : Array Value) : ax_K D cA (U.calling g mk a) :=
  ⟨va_K.moved (u := U) (U := U.calling g mk a) (Vm.Alike.refl U.vm) h.1, va_AO.moved (u := U) (U := U.calling g mk a) (Vm.Alike.refl U.vm) h.2.1, fun r hr z hz hk => va_Nw.same (u := U) (U := U.calling g mk a) rfl rfl (h.2.2 r hr z hz hk)⟩
theorem ax_X.moved {n0 b : Nat} {z : ax_E} {u U : State} {H H1 : Heap} (hvm : u.vm.Alike U.vm) (h : ax_X n0 b z u H) (hq : b < n0 → H1[b]? = H[b]?) : ax_X n0 b z U H1 := by
  cases z with
  | inl a =>
    intro q
    obtain ⟨e, hb, xs, e2, hx⟩ := h q
    exact ⟨e, hb, xs, e2, va_X.kept (va_X.moved hvm hx) (hq hb)⟩
  | inr o => exact h.elim
