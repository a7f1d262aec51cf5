/-! A type's things, its letters named by their order: the reference. -/
/-- the letters in their order -/
def cnoS (s : List Int) : List Int → List Int
  | [] => s
  | t :: l => if t < 0 then cnoS (if t ∈ s then s else s ++ [t]) l else cnoS s l
theorem cno_cons (s : List Int) (t : Int) (l : List Int) : cno s (t :: l) = if t < 0 then (-1 - ((ixo s t : Nat) : Int)) :: cno (if t ∈ s then s else s ++ [t]) l else t :: cno s l := rfl
theorem cnoS_cons (s : List Int) (t : Int) (l : List Int) : cnoS s (t :: l) = if t < 0 then cnoS (if t ∈ s then s else s ++ [t]) l else cnoS s l := rfl
theorem cno_app : ∀ (a s b : List Int), cno s (a ++ b) = cno s a ++ cno (cnoS s a) b := by
  intro a
  induction a with
  | nil => intro s b; rfl
  | cons t a ih =>
    intro s b
    rw [List.cons_append, cno_cons, cno_cons, cnoS_cons]
    by_cases q : t < 0
    · rw [if_pos q, if_pos q, if_pos q, ih, List.cons_append]
    · rw [if_neg q, if_neg q, if_neg q, ih, List.cons_append]
theorem cnoS_app : ∀ (a s b : List Int), cnoS s (a ++ b) = cnoS (cnoS s a) b := by
  intro a
  induction a with
  | nil => intro s b; rfl
  | cons t a ih =>
    intro s b
    rw [List.cons_append, cnoS_cons, cnoS_cons]
    by_cases q : t < 0
    · rw [if_pos q, if_pos q, ih]
    · rw [if_neg q, if_neg q, ih]
theorem cnoS_neg : ∀ {a s : List Int}, (∀ t, t ∈ s → t < 0) → ∀ t, t ∈ cnoS s a → t < 0 ∧ (t ∈ s ∨ t ∈ a) := by
  intro a
  induction a with
  | nil => intro s hs t ht; exact ⟨hs t ht, Or.inl ht⟩
  | cons x a ih =>
    intro s hs t ht
    unfold cnoS at ht
    by_cases q : x < 0
    · rw [if_pos q] at ht
      have := ih (s := if x ∈ s then s else s ++ [x]) (fun t ht => by
        split at ht
        · exact hs t ht
        · rcases List.mem_append.mp ht with w | w
          · exact hs t w
          · have : t = x := by simpa using w
            omega) t ht
      refine ⟨this.1, ?_⟩
      rcases this.2 with w | w
      · split at w
        · exact Or.inl w
        · rcases List.mem_append.mp w with w | w
          · exact Or.inl w
          · have : t = x := by simpa using w
            exact Or.inr (by rw [this]; exact List.mem_cons_self)
      · exact Or.inr (List.mem_cons_of_mem _ w)
    · rw [if_neg q] at ht
      have := ih hs t ht
      exact ⟨this.1, this.2.imp id (List.mem_cons_of_mem _)⟩
theorem cnoS_len : ∀ (a s : List Int), (cnoS s a).length ≤ s.length + a.length := by
  intro a
  induction a with
  | nil => intro s; exact Nat.le_refl _
  | cons x a ih =>
    intro s
    unfold cnoS
    rw [List.length_cons]
    split
    · split
      · have := ih s; omega
      · have := ih (s ++ [x]); rw [List.length_append] at this; simp at this; omega
    · have := ih s; omega
theorem cnoS_sub : ∀ {a s : List Int} {t : Int}, t ∈ s → t ∈ cnoS s a := by
  intro a
  induction a with
  | nil => intro s t h; exact h
  | cons x a ih =>
    intro s t h
    unfold cnoS
    split
    · split
      · exact ih h
      · exact ih (List.mem_append_left _ h)
    · exact ih h
theorem cnoS_mem : ∀ {a s : List Int} {t : Int}, t ∈ a → t < 0 → t ∈ cnoS s a := by
  intro a
  induction a with
  | nil => intro s t h; cases h
  | cons x a ih =>
    intro s t h hn
    unfold cnoS
    rcases List.mem_cons.mp h with e | e
    · subst e
      rw [if_pos hn]
      split
      · exact cnoS_sub (by assumption)
      · exact cnoS_sub (by simp)
    · split
      · exact ih e hn
      · exact ih e hn
theorem ixo_get : ∀ {s : List Int} {t : Int}, t ∈ s → s[ixo s t]? = some t := by
  intro s
  induction s with
  | nil => intro t h; cases h
  | cons a s ih =>
    intro t h
    unfold ixo
    by_cases e : a = t
    · rw [if_pos e, e]; rfl
    · rw [if_neg e, List.getElem?_cons_succ]
      refine ih ?_
      rcases List.mem_cons.mp h with q | q
      · exact absurd q.symm e
      · exact q
theorem ixo_bef : ∀ {s : List Int} {t : Int} {i : Nat} {a : Int}, i < ixo s t → s[i]? = some a → ¬ a = t := by
  intro s
  induction s with
  | nil => intro t i a h _; exact absurd h (Nat.not_lt_zero i)
  | cons b s ih =>
    intro t i a h h2
    unfold ixo at h
    by_cases e : b = t
    · rw [if_pos e] at h; omega
    · rw [if_neg e] at h
      cases i with
      | zero =>
        have : b = a := by simpa using h2
        rw [← this]; exact e
      | succ i =>
        rw [List.getElem?_cons_succ] at h2
        exact ih (by omega) h2
section ZO
variable {n : Nat} {σ : jS} {g : zH} {N : Int} {β : List (Int × Int)} {x u t : Int}
def oF : List (Nat × Int) := [(1039, 0), (1041, 0), (1042, 0), (1043, 0), (1044, 0), (1045, 0)]
def ordr (f : Int → Int) (O : List Int) : Prop := ∀ (i : Nat) (a : Int), O[i]? = some a → f (i : Int) = -1 - a
theorem ordr_up {f : Int → Int} {O : List Int} {u : Int} (h : ordr f O) : ordr (upI f (O.length : Nat) u) (O ++ [-1 - u]) := by
  intro i a hi
  unfold upI
  by_cases e : i < O.length
  · rw [if_neg (by omega)]
    rw [List.getElem?_append_left e] at hi
    exact h i a hi
  · rw [List.getElem?_append_right (by omega)] at hi
    by_cases e2 : i = O.length
    · subst e2
      rw [if_pos rfl]
      have : -1 - u = a := by simpa using hi
      omega
    · rw [List.getElem?_eq_none (by simp; omega)] at hi
      cases hi
theorem t_orderOf {Q : Int → jS → Prop} {O : List Int} (hm : mln σ) (hO : rs σ 1044 0 = (O.length : Nat)) (ho : ordr (ra σ 1042 0) O) (hl : O.length ≤ 100) (hq : ∀ σ1, sq [(1042, 0), (1044, 0)] σ σ1 → rs σ1 1044 0 = ((if -1 - u ∈ O then O else O ++ [-1 - u]).length : Nat) → ordr (ra σ1 1042 0) (if -1 - u ∈ O then O else O ++ [-1 - u]) → Q (ixo O (-1 - u) : Nat) σ1) : TrI n i_Model_orderOf [jo 1 0, ji u] σ Q := by
  have l42 := mln_at hm 1042 101 (by decide)
  have fin : J n c_Model_orderOf (some .int) 26 [some (jo 1 0), some (ji u), some (ji (ixo O (-1 - u) : Nat))] [] σ (qI Q) := by
    refine wp_Model_orderOf_26 ⟨by omega, ?_⟩
    by_cases q : -1 - u ∈ O
    · have := ixo_lt q
      rw [if_pos (by omega)]
      refine hq σ (sq.rf _ σ) ?_ ?_
      · rw [if_pos q]; exact hO
      · rw [if_pos q]; exact ho
    · have e := ixo_not q
      rw [if_neg (by omega)]
      refine ⟨by omega, by omega, by omega, fun s3 e3 => ?_⟩
      rw [show rs s3 1044 0 = (O.length : Nat) by rw [e3]; exact hO]
      refine ⟨⟨by omega, by omega⟩, fun s7 e7 => hq s7 ?_ ?_ ?_⟩
      · rw [e7, e3]; exact ((sq.rf _ σ).pwa 1042 0 _ _ (by decide)).pws 1044 0 _ (by decide)
      · rw [e7, rs_ws, if_pos ⟨rfl, rfl⟩, if_neg q, List.length_append]; simp
      · rw [if_neg q]
        have : ra s7 1042 0 = upI (ra σ 1042 0) (O.length : Nat) u := by rw [e7, e3, e]; rfl
        rw [this]
        exact ordr_up ho
  have loop : ∀ (j k : Nat), k + j = ixo O (-1 - u) → J n c_Model_orderOf (some .int) 2 [some (jo 1 0), some (ji u), some (ji (k : Nat))] [] σ (qI Q) := by
    intro j
    induction j with
    | zero =>
      intro k hk
      rw [Nat.add_zero] at hk
      rw [hk]
      refine wp_Model_orderOf_2 ⟨by omega, ?_⟩
      by_cases q : -1 - u ∈ O
      · have := ixo_lt q
        rw [if_neg (by omega)]
        refine ⟨by omega, by omega, by omega, ?_⟩
        rw [if_pos (by rw [ho _ _ (ixo_get q)]; omega)]
        exact fin
      · rw [if_pos (by rw [ixo_not q]; omega)]
        exact fin
    | succ j ih =>
      intro k hk
      have hkl : k < O.length := by
        by_cases q : -1 - u ∈ O
        · have := ixo_lt q; omega
        · have := ixo_not q; omega
      have hO2 : O[k]? = some O[k] := List.getElem?_eq_getElem hkl
      refine wp_Model_orderOf_2 ⟨by omega, ?_⟩
      rw [if_neg (by omega)]
      refine ⟨by omega, by omega, by omega, ?_⟩
      rw [if_neg (by rw [ho k _ hO2]; have := ixo_bef (t := -1 - u) (by omega) hO2; omega)]
      exact ⟨⟨by omega, by omega⟩, ih (k + 1) (by omega)⟩
  exact wp_Model_orderOf (loop (ixo O (-1 - u)) 0 (by omega))
/-- the letters of a part of the things, as bits -/
def ltr (x : Int) (D : List Int) : Prop := i32 x ∧ ∀ k : Int, 0 ≤ k → k < 32 → (tb x k = true ↔ ∃ t, t ∈ D ∧ 0 ≤ t ∧ t / 4 = k)
theorem ltr_up {x : Int} {D : List Int} {t : Int} (h : ltr x D) (h0 : 0 ≤ t) (h1 : t < 104) : ltr (bOr x (bShl 1 (t / 4))) (D ++ [t]) := by
  refine ⟨i32_bOr _ _, fun k k0 k1 => ?_⟩
  rw [tb_or, tb_one (by omega) (by omega) k0, Bool.or_eq_true, h.2 k k0 k1, decide_eq_true_eq]
  constructor
  · rintro (⟨t', h1, h2, h3⟩ | e)
    · exact ⟨t', List.mem_append_left _ h1, h2, h3⟩
    · exact ⟨t, by simp, h0, e.symm⟩
  · rintro ⟨t', h1, h2, h3⟩
    rcases List.mem_append.mp h1 with w | w
    · exact Or.inl ⟨t', w, h2, h3⟩
    · have : t' = t := by simpa using w
      rw [this] at h3
      exact Or.inr h3.symm
theorem ltr_neg {x : Int} {D : List Int} {t : Int} (h : ltr x D) (h0 : t < 0) : ltr x (D ++ [t]) := by
  refine ⟨h.1, fun k k0 k1 => ?_⟩
  rw [h.2 k k0 k1]
  constructor
  · rintro ⟨t', h1, h2, h3⟩
    exact ⟨t', List.mem_append_left _ h1, h2, h3⟩
  · rintro ⟨t', h1, h2, h3⟩
    rcases List.mem_append.mp h1 with w | w
    · exact ⟨t', w, h2, h3⟩
    · have : t' = t := by simpa using w
      omega
theorem ltr_nil : ltr 0 [] := ⟨⟨by decide, by decide⟩, fun k k0 k1 => by
  rw [tb_0]
  constructor
  · intro h; cases h
  · rintro ⟨t', h1, -⟩
    cases h1⟩
/-- what has been laid out -/
def laid (σ : jS) (D : List Int) : Prop := rs σ 1043 0 = (D.length : Nat) ∧ (∀ i : Nat, i < D.length → ra σ 1041 0 i = (cno [] D).getD i 0) ∧ rs σ 1044 0 = ((cnoS [] D).length : Nat) ∧ ordr (ra σ 1042 0) (cnoS [] D) ∧ ltr (rs σ 1045 0) D
def wlk (g : zH) (N : Int) (β : List (Int × Int)) (W : List Int) : List Int := (W.map (ex g N β)).flatten
theorem wlk_pud {y : Int} {W : List Int} : wlk g N β (pud (gp g y) 0 (pN (gh g y)) W) = ((List.range (pN (gh g y))).map (fun k => ex g N β (gp g y k))).flatten ++ wlk g N β W := by
  unfold wlk pud
  rw [List.map_append, List.flatten_append, List.map_map, List.range_eq_range']
  rfl
theorem t_out149 {Q : Int → jS → Prop} {y : Int} (hn : 1 ≤ n) (h : mT σ g N β) (y0 : 0 ≤ y) (y1 : y < N) {W : List Int} : ∀ (k j : Nat) (σ1 : jS), k + j = pN (gh g y) → W.length + pN (gh g y) ≤ 3999 → sq [(1039, 0)] σ σ1 → stk (ra σ1 1039 0) (pud (gp g y) k j W) → (∀ σ2, sq [(1039, 0)] σ σ2 → stk (ra σ2 1039 0) (pud (gp g y) 0 (pN (gh g y)) W) → J n c_Model_layOut (some .int) 24 [some (jo 1 0), none, some (ji ((pud (gp g y) 0 (pN (gh g y)) W).length : Nat)), none, none, none] [] σ2 (qI Q)) → J n c_Model_layOut (some .int) 149 [some (jo 1 0), none, some (ji ((pud (gp g y) k j W).length : Nat)), some (ji y), none, some (ji ((k : Nat) - 1))] [] σ1 (qI Q) := by
  intro k
  induction k with
  | zero =>
    intro j σ1 hk hW f1 f2 kk
    rw [Nat.zero_add] at hk
    rw [hk] at f2 ⊢
    refine wp_Model_layOut_149 ?_
    rw [if_pos (by omega)]
    exact kk σ1 f1 f2
  | succ k ih =>
    intro j σ1 hk hW f1 f2 kk
    obtain ⟨hl, hz, hb, h4, h5, h6, h7, h8, h9, h10, h11, h12, h13⟩ := h.sq f1 (by decide)
    have l28 := mln_at hl 1028 40000 (by decide)
    have l29 := mln_at hl 1029 40000 (by decide)
    have l31 := mln_at hl 1031 40000 (by decide)
    have l39 := mln_at hl 1039 4000 (by decide)
    obtain ⟨g1, g2, g3⟩ := h10 y y0 y1 k (by omega)
    have p3 := pN_3 hz y0 y1
    have hlen := pud_len (gp g y) (k + 1) j W
    refine wp_Model_layOut_149 ?_
    rw [show (((k + 1 : Nat) : Int) - 1) = (k : Nat) by omega, if_neg (by omega), g3]
    refine ⟨by omega, by omega, by omega, by omega, by omega, by omega, ⟨by omega, by omega⟩, by omega, by omega, by omega, by omega, fun s e => ⟨⟨by omega, by omega⟩, ⟨by omega, by omega⟩, ?_⟩⟩
    have := ih (j + 1) s (by omega) hW (by rw [e]; exact f1.pwa 1039 0 _ _ (by decide)) (by rw [pud_s, e]; exact stk_up f2) kk
    rw [pud_s, List.length_cons] at this
    rw [show (((pud (gp g y) (k + 1) j W).length : Nat) : Int) + 1 = (((pud (gp g y) (k + 1) j W).length + 1 : Nat) : Int) by omega, show ((k : Nat) : Int) + (-1) = (k : Nat) - 1 by omega]
    exact this
end ZO
