/-! The search told without nodes: what is asked, with fuel; what its fuel does. -/
def oneD (r : List Int) : zD := fun τ => τ = [r]
def ndD (a : zD → Nat → Nat → Option (Option zD)) (L : Nat) : List Nat → zD → Option (Option zD)
  | [], S => some (some S)
  | i :: is, S => (a S L i).bind (fun v => v.elim (some none) (fun S' => ndD a L is S'))
def tyD (T : zT) (a : zD → Nat → Nat → Option (Option zD)) (k : Int) (L i : Nat) (S : zD) : Option (Option zD) :=
  (ndD a (L + (tN T k).toNat) (List.range' L (tN T k).toNat) (lyD T k i S)).bind (fun v => some (v.map (cutD L)))
def bsD (T : zT) (a : zD → Nat → Nat → Option (Option zD)) (L i : Nat) (S : zD) : List Int → Option zD → Option (Option zD)
  | [], one => some one
  | k :: ks, one => (tyD T a k L i S).bind (fun v => if v.isNone = true then bsD T a L i S ks one else if one.isNone = true then bsD T a L i S ks v else none)
noncomputable def rdD (T : zT) (a : zD → Nat → Nat → Option (Option zD)) (L i : Nat) (S : zD) : Nat → List Int → Option (Option zD)
  | 0, _ => some none
  | m + 1, C => if C = [] then some none else (bsD T a L i S (bstL T C) none).bind (fun v => if v.isNone = true then rdD T a L i S m (C.filter (fun k => !(bstL T C).contains k)) else some v)
noncomputable def canD (P : zP) (i : Nat) (S : zD) (sc : Int) : List Int := (zrg (tG P.1)).filter (fun k => dcd (0 ≤ k ∧ k < tG P.1 ∧ tH P.1 k = sc ∧ ¬ tb P.2.1 k = true ∧ ¬ tb P.2.2.1 sc = true ∧ ∃ τ, S τ ∧ ∃ θ : Int → List Int, (∀ v, Typ (θ v)) ∧ sbt θ (tR P.1 k 0) = τ.getD i []))
noncomputable def skD (P : zP) (a : zD → Nat → Nat → Option (Option zD)) (L i : Nat) (S : zD) : Nat → Int → Option (Option zD)
  | 0, _ => some none
  | m + 1, sc => (rdD P.1 a L i S 24 (canD P i S sc)).bind (fun v => if v.isNone = true then (if tA P.1 sc = -1 then some none else skD P a L i S m (tA P.1 sc)) else some v)
def clD (S : zD) (i : Nat) (r : List Int) : Prop := clsd r = true ∧ (∃ τ, S τ) ∧ ∀ τ, S τ → τ.getD i [] = r
/-- the closed row of a goal, if it is closed -/
noncomputable def rwD (S : zD) (i : Nat) : Option (List Int) := if dcd (∃ r, clD S i r) = true then some (Classical.epsilon (clD S i)) else none
noncomputable def askD (P : zP) (M0 : zM) : Nat → zD → Nat → Nat → Option (Option zD)
  | 0, _, _, _ => none
  | n + 1, S, L, i => match rwD S i with
    | none => skD P (askD P M0 n) L i S 6 P.2.2.2.1
    | some r => match fndM M0 P.2.2.2.1 r with
      | some j => some (if memT M0 j = [] then none else some S)
      | none => (skD P (askD P M0 n) 1 0 (oneD r) 6 P.2.2.2.1).bind (fun v => some (v.map (fun _ => S)))
def leD (a a' : zD → Nat → Nat → Option (Option zD)) : Prop := ∀ S L i v, a S L i = some v → a' S L i = some v
def Mn {α : Type} (f : Nat → Option α) : Prop := ∀ n n' v, n ≤ n' → f n = some v → f n' = some v
/-- a row can be told with that much fuel -/
def toD (P : zP) (M0 : zM) (r : List Int) (n : Nat) : Prop := ¬ askD P M0 n (oneD r) 1 0 = none
def hit {α : Type} (P : zP) (M0 : zM) (f : Nat → Option α) (v : α) (A : zM) : Prop := (∃ n, f n = some v) ∧ ∀ n, ¬ f n = none → ∀ e, e ∈ A → ∃ n', n' ≤ n ∧ toD P M0 e.2.1 n'
section ZOe
variable {T : zT} {P : zP} {M0 : zM} {a a' : zD → Nat → Nat → Option (Option zD)} {S : zD} {L i : Nat} {v : Option zD} {α γ : Type}
theorem rwD_some {r : List Int} (h : clD S i r) : rwD S i = some r := by
  unfold rwD
  rw [if_pos (dcd_iff.mpr ⟨r, h⟩)]
  have h2 : clD S i (Classical.epsilon (clD S i)) := Classical.epsilon_spec ⟨r, h⟩
  obtain ⟨τ, hτ⟩ := h.2.1
  exact congrArg _ ((h2.2.2 τ hτ).symm.trans (h.2.2 τ hτ))
theorem rwD_none (h : ¬ ∃ r, clD S i r) : rwD S i = none := by
  unfold rwD
  rw [if_neg (fun w => h (dcd_iff.mp w))]
theorem rwD_one {r : List Int} (h : clsd r = true) : rwD (oneD r) 0 = some r := rwD_some ⟨h, ⟨[r], rfl⟩, fun τ hτ => by
  have e : τ = [r] := hτ
  rw [e]; rfl⟩
theorem bnd_le {o o' : Option α} {f f' : α → Option γ} {w : γ} (h1 : ∀ u, o = some u → o' = some u) (h2 : ∀ u w, f u = some w → f' u = some w) (h : o.bind f = some w) : o'.bind f' = some w := by
  obtain ⟨u, e1, e2⟩ := Option.bind_eq_some_iff.mp h
  rw [h1 u e1]
  exact h2 u w e2
theorem ndD_le (h : leD a a') : ∀ (is : List Nat) (S : zD) (v : Option zD), ndD a L is S = some v → ndD a' L is S = some v := by
  intro is
  induction is with
  | nil => intro S v e; exact e
  | cons i is ih =>
    intro S v e
    refine bnd_le (h S L i) (fun u w e => ?_) e
    cases u with
    | none => exact e
    | some S' => exact ih S' w e
theorem tyD_le (h : leD a a') {k : Int} {v : Option zD} (e : tyD T a k L i S = some v) : tyD T a' k L i S = some v := bnd_le (fun u => ndD_le h _ _ u) (fun u w e => e) e
theorem bsD_le (h : leD a a') : ∀ (ks : List Int) (one : Option zD) (v : Option zD), bsD T a L i S ks one = some v → bsD T a' L i S ks one = some v := by
  intro ks
  induction ks with
  | nil => intro one v e; exact e
  | cons k ks ih =>
    intro one v e
    refine bnd_le (fun u => tyD_le h) (fun u w e => ?_) e
    by_cases q : u.isNone = true
    · rw [if_pos q] at e ⊢; exact ih _ _ e
    · rw [if_neg q] at e ⊢
      by_cases q2 : one.isNone = true
      · rw [if_pos q2] at e ⊢; exact ih _ _ e
      · rw [if_neg q2] at e; cases e
theorem rdD_le (h : leD a a') : ∀ (m : Nat) (C : List Int) (v : Option zD), rdD T a L i S m C = some v → rdD T a' L i S m C = some v := by
  intro m
  induction m with
  | zero => intro C v e; exact e
  | succ m ih =>
    intro C v e
    unfold rdD at e ⊢
    by_cases q : C = []
    · rw [if_pos q] at e ⊢; exact e
    · rw [if_neg q] at e ⊢
      refine bnd_le (fun u => bsD_le h _ _ u) (fun u w e => ?_) e
      by_cases q : u.isNone = true
      · rw [if_pos q] at e ⊢; exact ih _ _ e
      · rw [if_neg q] at e ⊢; exact e
theorem skD_le (h : leD a a') : ∀ (m : Nat) (sc : Int) (v : Option zD), skD P a L i S m sc = some v → skD P a' L i S m sc = some v := by
  intro m
  induction m with
  | zero => intro C v e; exact e
  | succ m ih =>
    intro sc v e
    refine bnd_le (fun u => rdD_le h _ _ u) (fun u w e => ?_) e
    by_cases q : u.isNone = true
    · rw [if_pos q] at e ⊢
      by_cases q2 : tA P.1 sc = -1
      · rw [if_pos q2] at e ⊢; exact e
      · rw [if_neg q2] at e ⊢; exact ih _ _ e
    · rw [if_neg q] at e ⊢; exact e
theorem askD_s : ∀ n, leD (askD P M0 n) (askD P M0 (n + 1)) := by
  intro n
  induction n with
  | zero => intro S L i v e; cases e
  | succ n ih =>
    intro S L i v e
    unfold askD at e ⊢
    cases q : rwD S i with
    | none =>
      rw [q] at e
      exact skD_le ih _ _ _ e
    | some r =>
      rw [q] at e
      dsimp only at e ⊢
      cases q2 : fndM M0 P.2.2.2.1 r with
      | some j =>
        rw [q2] at e
        exact e
      | none =>
        rw [q2] at e
        exact bnd_le (fun u => skD_le ih _ _ u) (fun u w e => e) e
theorem askD_m {n n' : Nat} (h : n ≤ n') : leD (askD P M0 n) (askD P M0 n') := by
  obtain ⟨d, rfl⟩ := Nat.le.dest h
  clear h
  induction d with
  | zero => exact fun _ _ _ _ e => e
  | succ d ih => exact fun S L i v e => askD_s _ S L i v (ih S L i v e)
theorem Mn_bind {f : Nat → Option α} {h : α → Nat → Option γ} (hf : Mn f) (hh : ∀ u, Mn (h u)) : Mn (fun n => (f n).bind (fun u => h u n)) := fun n n' w hn e => bnd_le (fun u => hf n n' u hn) (fun u w => hh u n n' w hn) e
theorem ndD_m {is : List Nat} : Mn (fun n => ndD (askD P M0 n) L is S) := fun _ _ v hn e => ndD_le (askD_m hn) is S v e
theorem tyD_m {k : Int} : Mn (fun n => tyD T (askD P M0 n) k L i S) := fun _ _ _ hn e => tyD_le (askD_m hn) e
theorem bsD_m {ks : List Int} {one : Option zD} : Mn (fun n => bsD T (askD P M0 n) L i S ks one) := fun _ _ v hn e => bsD_le (askD_m hn) ks one v e
theorem rdD_m {m : Nat} {C : List Int} : Mn (fun n => rdD T (askD P M0 n) L i S m C) := fun _ _ v hn e => rdD_le (askD_m hn) m C v e
theorem skD_m {m : Nat} {sc : Int} : Mn (fun n => skD P (askD P M0 n) L i S m sc) := fun _ _ v hn e => skD_le (askD_m hn) m sc v e
theorem askD_mn : Mn (fun n => askD P M0 n S L i) := fun _ _ v hn e => askD_m hn S L i v e
theorem Mn_eq {f : Nat → Option α} (hf : Mn f) {n n' : Nat} {u w : α} (h1 : f n = some u) (h2 : f n' = some w) : u = w := by
  have e1 := hf n (max n n') u (Nat.le_max_left _ _) h1
  have e2 := hf n' (max n n') w (Nat.le_max_right _ _) h2
  rw [e1] at e2
  exact Option.some.inj e2
theorem hit_bind {f : Nat → Option α} {h : α → Nat → Option γ} {u : α} {w : γ} {A A' : zM} (hf : Mn f) (hh : ∀ u, Mn (h u)) (h1 : hit P M0 f u A) (h2 : hit P M0 (h u) w A') : hit P M0 (fun n => (f n).bind (fun u => h u n)) w (A ++ A') := by
  obtain ⟨⟨n1, e1⟩, b1⟩ := h1
  obtain ⟨⟨n2, e2⟩, b2⟩ := h2
  refine ⟨⟨max n1 n2, ?_⟩, fun n hn e he => ?_⟩
  · dsimp only
    rw [hf _ _ _ (Nat.le_max_left n1 n2) e1]
    exact hh u _ _ _ (Nat.le_max_right n1 n2) e2
  · dsimp only at hn
    cases q : f n with
    | none =>
      rw [q] at hn
      exact absurd rfl hn
    | some u' =>
      have eu : u' = u := Mn_eq hf q e1
      rw [q, eu] at hn
      rcases List.mem_append.mp he with w1 | w1
      · exact b1 n (by rw [q]; exact fun w => by cases w) e w1
      · exact b2 n hn e w1
theorem hit_pure {w : γ} : hit P M0 (fun _ => some w) w [] := ⟨⟨0, rfl⟩, fun _ _ _ he => by cases he⟩
theorem Mn_pure {o : Option γ} : Mn (fun _ => o) := fun _ _ _ _ e => e
end ZOe
