/-! Rows of things: types; what is put for letters; names by their order. -/
def pN (t : Int) : Nat := if t < 0 then 0 else (t % 4).toNat
def rdk : List Int → Nat → Option (List Int)
  | l, 0 => some l
  | [], _ + 1 => none
  | t :: l, k + 1 => rdk l (k + pN t)
def Typ (r : List Int) : Prop := rdk r 1 = some []
theorem rdk_0 (l : List Int) : rdk l 0 = some l := by cases l <;> rfl
theorem rdk_app : ∀ {l : List Int} {k : Nat} {m : List Int}, rdk l k = some m → ∀ e, rdk (l ++ e) k = some (m ++ e) := by
  intro l
  induction l with
  | nil =>
    intro k m h e
    cases k with
    | zero => rw [rdk_0] at h ⊢; cases h; rfl
    | succ k => cases h
  | cons t l ih =>
    intro k m h e
    cases k with
    | zero => rw [rdk_0] at h ⊢; cases h; rfl
    | succ k => exact ih (k := k + pN t) h e
theorem rdk_add : ∀ (l : List Int) (j k : Nat), rdk l (j + k) = (rdk l j).bind (fun m => rdk m k) := by
  intro l
  induction l with
  | nil =>
    intro j k
    cases j with
    | zero => rw [Nat.zero_add, rdk_0]; rfl
    | succ j => rw [show j + 1 + k = j + k + 1 by omega]; rfl
  | cons t l ih =>
    intro j k
    cases j with
    | zero => rw [Nat.zero_add, rdk_0]; rfl
    | succ j =>
      rw [show j + 1 + k = j + k + 1 by omega]
      show rdk l (j + k + pN t) = (rdk l (j + pN t)).bind _
      rw [show j + k + pN t = j + pN t + k by omega, ih]
theorem Typ_app {r : List Int} (h : Typ r) (e : List Int) : rdk (r ++ e) 1 = some e := rdk_app h e
theorem Typ_ne {r : List Int} (h : Typ r) : 1 ≤ r.length := by
  cases r with
  | nil => cases h
  | cons t l => simp
theorem Typ_var {v : Int} (h : v < 0) : Typ [v] := by
  unfold Typ
  show rdk [] (0 + pN v) = _
  unfold pN
  rw [if_pos h]
  rfl
theorem rdk_flat : ∀ {ps : List (List Int)}, (∀ r, r ∈ ps → Typ r) → ∀ e, rdk (ps.flatten ++ e) ps.length = some e := by
  intro ps
  induction ps with
  | nil => intro _ e; exact rdk_0 _
  | cons r ps ih =>
    intro h e
    rw [List.flatten_cons, List.append_assoc, List.length_cons, show ps.length + 1 = 1 + ps.length by omega, rdk_add, Typ_app (h r List.mem_cons_self)]
    exact ih (fun r hr => h r (List.mem_cons_of_mem _ hr)) e
theorem Typ_con {t : Int} {ps : List (List Int)} (h : ∀ r, r ∈ ps → Typ r) (hn : ps.length = pN t) : Typ (t :: ps.flatten) := by
  unfold Typ
  show rdk ps.flatten (0 + pN t) = _
  have := rdk_flat h []
  rw [List.append_nil] at this
  rw [Nat.zero_add, ← hn, this]
theorem Typ_inj {a b x y : List Int} (ha : Typ a) (hb : Typ b) (h : a ++ x = b ++ y) : a = b ∧ x = y := by
  have h1 := Typ_app ha x
  rw [h, Typ_app hb y] at h1
  cases h1
  exact ⟨List.append_cancel_right h, rfl⟩
theorem flat_inj : ∀ {ps qs : List (List Int)}, (∀ r, r ∈ ps → Typ r) → (∀ r, r ∈ qs → Typ r) → ps.length = qs.length → ps.flatten = qs.flatten → ps = qs := by
  intro ps
  induction ps with
  | nil =>
    intro qs _ _ hl _
    cases qs with
    | nil => rfl
    | cons q qs => simp at hl
  | cons p ps ih =>
    intro qs h1 h2 hl h
    cases qs with
    | nil => simp at hl
    | cons q qs =>
      rw [List.flatten_cons, List.flatten_cons] at h
      obtain ⟨e1, e2⟩ := Typ_inj (h1 p List.mem_cons_self) (h2 q List.mem_cons_self) h
      rw [e1, ih (fun r hr => h1 r (List.mem_cons_of_mem _ hr)) (fun r hr => h2 r (List.mem_cons_of_mem _ hr)) (by simpa using hl) e2]
/-- what is put for letters -/
def sbt (θ : Int → List Int) (r : List Int) : List Int := r.flatMap (fun t => if t < 0 then θ t else [t])
theorem sbt_app (θ : Int → List Int) (a b : List Int) : sbt θ (a ++ b) = sbt θ a ++ sbt θ b := List.flatMap_append
theorem sbt_cons_c {θ : Int → List Int} {t : Int} {l : List Int} (h : ¬ t < 0) : sbt θ (t :: l) = t :: sbt θ l := by
  unfold sbt
  rw [List.flatMap_cons, if_neg h]
  rfl
theorem sbt_cons_v {θ : Int → List Int} {t : Int} {l : List Int} (h : t < 0) : sbt θ (t :: l) = θ t ++ sbt θ l := by
  unfold sbt
  rw [List.flatMap_cons, if_pos h]
theorem sbt_flat (θ : Int → List Int) : ∀ (ps : List (List Int)), sbt θ ps.flatten = (ps.map (sbt θ)).flatten := by
  intro ps
  induction ps with
  | nil => rfl
  | cons p ps ih => rw [List.flatten_cons, sbt_app, ih]; rfl
theorem sbt_len {θ : Int → List Int} (h : ∀ v, v < 0 → 1 ≤ (θ v).length) : ∀ r, r.length ≤ (sbt θ r).length := by
  intro r
  induction r with
  | nil => exact Nat.le_refl _
  | cons t l ih =>
    by_cases q : t < 0
    · rw [sbt_cons_v q, List.length_cons, List.length_append]
      have := h t q
      omega
    · rw [sbt_cons_c q, List.length_cons, List.length_cons]
      omega
/-- names by the order in which letters come first: s the letters so far -/
def ixo (s : List Int) (t : Int) : Nat := match s with
  | [] => 0
  | a :: s => if a = t then 0 else ixo s t + 1
def cno (s : List Int) : List Int → List Int
  | [] => []
  | t :: l => if t < 0 then (-1 - (ixo s t : Nat)) :: cno (if t ∈ s then s else s ++ [t]) l else t :: cno s l
theorem ixo_lt {s : List Int} {t : Int} (h : t ∈ s) : ixo s t < s.length := by
  induction s with
  | nil => cases h
  | cons a s ih =>
    unfold ixo
    by_cases e : a = t
    · rw [if_pos e]; simp
    · rw [if_neg e]
      have : t ∈ s := by
        rcases List.mem_cons.mp h with q | q
        · exact absurd q.symm e
        · exact q
      have := ih this
      simp
      omega
theorem ixo_not {s : List Int} {t : Int} (h : ¬ t ∈ s) : ixo s t = s.length := by
  induction s with
  | nil => rfl
  | cons a s ih =>
    unfold ixo
    rw [if_neg (fun e => h (by rw [e]; exact List.mem_cons_self)), ih (fun q => h (List.mem_cons_of_mem _ q))]
    simp
theorem cno_len : ∀ (l s : List Int), (cno s l).length = l.length := by
  intro l
  induction l with
  | nil => intro s; rfl
  | cons t l ih =>
    intro s
    unfold cno
    split <;> simp [ih]
theorem ixo_map {f : Int → Int} {t : Int} : ∀ {s : List Int}, (∀ a, a ∈ s → f a = f t → a = t) → ixo (s.map f) (f t) = ixo s t := by
  intro s
  induction s with
  | nil => intro _; rfl
  | cons a s ih =>
    intro h
    show (if f a = f t then 0 else ixo (s.map f) (f t) + 1) = if a = t then 0 else ixo s t + 1
    by_cases e : a = t
    · rw [if_pos e, if_pos (by rw [e])]
    · rw [if_neg e, if_neg (fun q => e (h a List.mem_cons_self q)), ih (fun b hb => h b (List.mem_cons_of_mem _ hb))]
theorem cno_map {f : Int → Int} : ∀ {l s : List Int}, (∀ a, a ∈ s → a < 0) → (∀ a b, (a ∈ s ∨ a ∈ l) → (b ∈ s ∨ b ∈ l) → a < 0 → b < 0 → f a = f b → a = b) → (∀ a, a ∈ l → a < 0 → f a < 0) → (∀ a, a ∈ l → ¬ a < 0 → f a = a) → cno (s.map f) (l.map f) = cno s l := by
  intro l
  induction l with
  | nil => intro s _ _ _ _; rfl
  | cons t l ih =>
    intro s h0 h1 h2 h3
    rw [List.map_cons]
    unfold cno
    by_cases q : t < 0
    · rw [if_pos q, if_pos (h2 t List.mem_cons_self q)]
      have e1 : ixo (s.map f) (f t) = ixo s t := ixo_map (fun a ha e => h1 a t (Or.inl ha) (Or.inr List.mem_cons_self) (h0 a ha) q e)
      have e2 : (if f t ∈ s.map f then s.map f else s.map f ++ [f t]) = (if t ∈ s then s else s ++ [t]).map f := by
        by_cases m : t ∈ s
        · rw [if_pos m, if_pos (List.mem_map.mpr ⟨t, m, rfl⟩)]
        · rw [if_neg m, if_neg, List.map_append]
          · rfl
          · rintro hm
            obtain ⟨a, ha, e⟩ := List.mem_map.mp hm
            have := h1 a t (Or.inl ha) (Or.inr List.mem_cons_self) (h0 a ha) q e
            subst this
            exact m ha
      rw [e1, e2, ih]
      · intro a ha
        split at ha
        · exact h0 a ha
        · rcases List.mem_append.mp ha with g | g
          · exact h0 a g
          · rcases List.mem_cons.mp g with g | g
            · rw [g]; exact q
            · cases g
      · intro a b ha hb
        have key : ∀ c, (c ∈ (if t ∈ s then s else s ++ [t]) ∨ c ∈ l) → (c ∈ s ∨ c ∈ t :: l) := fun c hc => by
          rcases hc with g | g
          · split at g
            · exact Or.inl g
            · rcases List.mem_append.mp g with g | g
              · exact Or.inl g
              · rcases List.mem_cons.mp g with g | g
                · rw [g]; exact Or.inr List.mem_cons_self
                · cases g
          · exact Or.inr (List.mem_cons_of_mem _ g)
        exact h1 a b (key a ha) (key b hb)
      · exact fun a ha => h2 a (List.mem_cons_of_mem _ ha)
      · exact fun a ha => h3 a (List.mem_cons_of_mem _ ha)
    · rw [if_neg q, h3 t List.mem_cons_self q, if_neg q, ih h0]
      · exact fun a b ha hb => h1 a b (ha.imp id (List.mem_cons_of_mem _)) (hb.imp id (List.mem_cons_of_mem _))
      · exact fun a ha => h2 a (List.mem_cons_of_mem _ ha)
      · exact fun a ha => h3 a (List.mem_cons_of_mem _ ha)
/-- two rows, each of which comes of the other, differ in their letters' names alone -/
theorem sbt_var {θ θ' : Int → List Int} (h : ∀ v, v < 0 → 1 ≤ (θ v).length) (h' : ∀ v, v < 0 → 1 ≤ (θ' v).length) {r : List Int} (e : sbt θ' (sbt θ r) = r) : ∀ t, t ∈ r → t < 0 → ∃ w, w < 0 ∧ θ t = [w] ∧ θ' w = [t] := by
  induction r with
  | nil => intro t ht; cases ht
  | cons a r ih =>
    have l1 : r.length ≤ (sbt θ' (sbt θ r)).length := Nat.le_trans (sbt_len h r) (sbt_len h' _)
    by_cases q : a < 0
    · rw [sbt_cons_v q, sbt_app] at e
      have g1 := h a q
      have g2 := sbt_len h' (θ a)
      have e1 : (sbt θ' (θ a)).length + (sbt θ' (sbt θ r)).length = r.length + 1 := by
        have := congrArg List.length e
        rw [List.length_append, List.length_cons] at this
        exact this
      have g3 : (sbt θ' (θ a)).length = 1 := by omega
      have g4 : (θ a).length = 1 := by omega
      obtain ⟨w, hw⟩ := List.length_eq_one_iff.mp g4
      have e2 : sbt θ' (θ a) = [a] ∧ sbt θ' (sbt θ r) = r := by
        have := List.append_inj e (by rw [g3]; rfl : (sbt θ' (θ a)).length = [a].length)
        exact this
      intro t ht hv
      rcases List.mem_cons.mp ht with g | g
      · subst g
        rw [hw] at e2
        by_cases qw : w < 0
        · rw [sbt_cons_v qw] at e2
          refine ⟨w, qw, hw, ?_⟩
          have := e2.1
          simpa [sbt] using this
        · rw [sbt_cons_c qw] at e2
          have := e2.1
          simp [sbt] at this
          omega
      · exact ih e2.2 t g hv
    · rw [sbt_cons_c q, sbt_cons_c q] at e
      have e2 : sbt θ' (sbt θ r) = r := by simpa using e
      intro t ht hv
      rcases List.mem_cons.mp ht with g | g
      · subst g; exact absurd hv q
      · exact ih e2 t g hv
theorem cno_same {θ θ' : Int → List Int} (h : ∀ v, v < 0 → 1 ≤ (θ v).length) (h' : ∀ v, v < 0 → 1 ≤ (θ' v).length) {r r' : List Int} (e : r' = sbt θ r) (e' : r = sbt θ' r') : cno [] r' = cno [] r := by
  subst e
  have hv := sbt_var h h' e'.symm
  have em : sbt θ r = r.map (fun t => if t < 0 then (θ t).headD 0 else t) := by
    clear e'
    induction r with
    | nil => rfl
    | cons a r ih =>
      rw [List.map_cons]
      have ih := ih (fun t ht => hv t (List.mem_cons_of_mem _ ht))
      by_cases q : a < 0
      · obtain ⟨w, hw, h1, -⟩ := hv a List.mem_cons_self q
        rw [sbt_cons_v q, if_pos q, h1, ih]
        rfl
      · rw [sbt_cons_c q, if_neg q, ih]
  rw [em]
  refine cno_map (s := []) (fun a ha => by cases ha) (fun a b ha hb qa qb eab => ?_) (fun a ha q => ?_) (fun a ha q => ?_)
  · rcases ha with ha | ha
    · cases ha
    rcases hb with hb | hb
    · cases hb
    rw [if_pos qa, if_pos qb] at eab
    obtain ⟨w, hw, h1, h2⟩ := hv a ha qa
    obtain ⟨w', hw', h1', h2'⟩ := hv b hb qb
    rw [h1, h1'] at eab
    have : w = w' := by simpa using eab
    subst this
    rw [h2] at h2'
    simpa using h2'
  · obtain ⟨w, hw, h1, h2⟩ := hv a ha q
    rw [if_pos q, h1]
    exact hw
  · rw [if_neg q]
