/-! What can be solved can be tied; rows that stay as they are. -/
theorem cno_cl : ∀ {l s : List Int}, (∀ t, t ∈ l → 0 ≤ t) → cno s l = l := by
  intro l
  induction l with
  | nil => intro _ _; rfl
  | cons a l ih =>
    intro s h
    have h0 := h a List.mem_cons_self
    rw [cno_cons, if_neg (by omega), ih (fun t ht => h t (List.mem_cons_of_mem _ ht))]
theorem clsd_cno : ∀ {l s : List Int}, clsd (cno s l) = true → ∀ t, t ∈ l → 0 ≤ t := by
  intro l
  induction l with
  | nil => intro _ _ t ht; cases ht
  | cons a l ih =>
    intro s h t ht
    rw [cno_cons] at h
    by_cases q : a < 0
    · rw [if_pos q] at h
      have := of_decide_eq_true (List.all_eq_true.mp h _ List.mem_cons_self)
      omega
    · rw [if_neg q] at h
      rcases List.mem_cons.mp ht with e | e
      · rw [e]; omega
      · refine ih (s := s) (List.all_eq_true.mpr (fun v hv => List.all_eq_true.mp h v (List.mem_cons_of_mem _ hv))) t e
theorem sbt_cl {θ : Int → List Int} : ∀ {l : List Int}, (∀ t, t ∈ l → 0 ≤ t) → sbt θ l = l := by
  intro l
  induction l with
  | nil => intro _; rfl
  | cons a l ih =>
    intro h
    have h0 := h a List.mem_cons_self
    rw [sbt_cons_c (by omega), ih (fun t ht => h t (List.mem_cons_of_mem _ ht))]
section ZFz
variable {g g' : zH} {N N' : Int} {β β' E E' : List (Int × Int)} {x y u t : Int}
theorem crun_new (hz : zok g N) : ∀ (k : Nat) (β P : List (Int × Int)), crun g N k β P → bok g N β → acy g N β → (∀ p, p ∈ P → 0 ≤ p.1 ∧ p.1 < N ∧ 0 ≤ p.2 ∧ p.2 < N) → ∃ new, bok g N (new ++ β) ∧ acy g N (new ++ β) ∧ ∀ ρ, sol g N (new ++ β) ρ ↔ sol g N β ρ ∧ peq ρ P := by
  intro k
  induction k with
  | zero =>
    intro β P h hb ha _
    have e : P = [] := h
    exact ⟨[], hb, ha, fun ρ => by rw [e]; exact ⟨fun q => ⟨q, fun p hp => by cases hp⟩, fun q => q.1⟩⟩
  | succ k ih =>
    intro β P h hb ha hw
    cases P with
    | nil => exact False.elim h
    | cons p P =>
      obtain ⟨a, b⟩ := p
      obtain ⟨a0, a1, b0, b1⟩ := hw _ List.mem_cons_self
      have hwP : ∀ p, p ∈ P → 0 ≤ p.1 ∧ p.1 < N ∧ 0 ≤ p.2 ∧ p.2 < N := fun p hp => hw p (List.mem_cons_of_mem _ hp)
      obtain ⟨i1, i2, i3, i4, i5, -⟩ := sv_all hz hb ha a a0 a1
      obtain ⟨k1, k2, k3, k4, k5, -⟩ := sv_all hz hb ha b b0 b1
      have hex : ∀ ρ, (sol g N β ρ ∧ peq ρ ((a, b) :: P)) ↔ (sol g N β ρ ∧ ρ (sv g N β a) = ρ (sv g N β b) ∧ peq ρ P) := fun ρ => by
        rw [peq_cons]
        constructor
        · rintro ⟨q1, q2, q3⟩
          exact ⟨q1, by rw [i5 ρ q1, k5 ρ q1]; exact q2, q3⟩
        · rintro ⟨q1, q2, q3⟩
          exact ⟨q1, by rw [← i5 ρ q1, ← k5 ρ q1]; exact q2, q3⟩
      have bnd : ∀ u t, svd g β u → gh g u = -1 → 0 ≤ u → u < N → 0 ≤ t → t < N → ¬ -1 - u ∈ ex g N β t → crun g N k ((u, t) :: β) P → (∀ ρ : Int → List Int, ρ (sv g N β a) = ρ (sv g N β b) ↔ ρ u = ρ t) → ∃ new, bok g N (new ++ β) ∧ acy g N (new ++ β) ∧ ∀ ρ, sol g N (new ++ β) ρ ↔ sol g N β ρ ∧ peq ρ ((a, b) :: P) := by
        intro u t us hu u0 u1 t0 t1 hm hc hut
        have hf := us hu
        obtain ⟨new, n1, n2, n3⟩ := ih ((u, t) :: β) P hc (bind_bok hb u0 u1 hu hf t0 t1) (bind_acy hz hb ha u0 u1 hu hf t0 t1 hm) hwP
        have el : (new ++ [(u, t)]) ++ β = new ++ ((u, t) :: β) := by rw [List.append_assoc]; rfl
        refine ⟨new ++ [(u, t)], by rw [el]; exact n1, by rw [el]; exact n2, fun ρ => ?_⟩
        rw [el, n3 ρ, bind_sol u0 u1 hu hf t0, hex ρ, hut ρ]
        exact ⟨fun q => ⟨q.1.1, q.1.2, q.2⟩, fun q => ⟨⟨q.1, q.2.1⟩, q.2.2⟩⟩
      rcases h with ⟨e, h⟩ | ⟨e, gb, m, h⟩ | ⟨e, gb, ga, m, h⟩ | ⟨e, gb, ga, he, h⟩
      · obtain ⟨new, n1, n2, n3⟩ := ih β P h hb ha hwP
        refine ⟨new, n1, n2, fun ρ => ?_⟩
        rw [n3 ρ, hex ρ, e]
        exact ⟨fun q => ⟨q.1, rfl, q.2⟩, fun q => ⟨q.1, q.2.2⟩⟩
      · exact bnd _ _ k1 gb k2 k3 i2 i3 m h (fun ρ => ⟨Eq.symm, Eq.symm⟩)
      · exact bnd _ _ i1 ga i2 i3 k2 k3 m h (fun ρ => Iff.rfl)
      · obtain ⟨new, n1, n2, n3⟩ := ih β _ h hb ha (fun p hp => by
          rcases pud_mem.mp hp with ⟨q, hq, e2⟩ | w
          · rw [e2]
            have c1 := (hz _ i2 i3).2 q hq
            have c2 := (hz _ k2 k3).2 q (by rw [← he]; exact hq)
            exact ⟨c1.1, by omega, c2.1, by omega⟩
          · exact hwP p w)
        refine ⟨new, n1, n2, fun ρ => ?_⟩
        rw [n3 ρ, hex ρ, peq_pud]
        constructor
        · rintro ⟨q1, q2, q3⟩
          exact ⟨q1, (con_dec hz q1 i2 i3 k2 k3 ga he).mpr q2, q3⟩
        · rintro ⟨q1, q2, q3⟩
          exact ⟨q1, (con_dec hz q1 i2 i3 k2 k3 ga he).mp q2, q3⟩
theorem uni_rep (hz : zok g N) (h : rep g N β E) (x0 : 0 ≤ x) (x1 : x < N) (y0 : 0 ≤ y) (y1 : y < N) (hs : ∃ ρ, solE g N E ρ ∧ ρ x = ρ y) : ∃ β', rep g N β' ((x, y) :: E) := by
  obtain ⟨ρ, q1, q2⟩ := hs
  have hw : ∀ p, p ∈ [(x, y)] → 0 ≤ p.1 ∧ p.1 < N ∧ 0 ≤ p.2 ∧ p.2 < N := fun p hp => by
    have : p = (x, y) := by simpa using hp
    rw [this]; exact ⟨x0, x1, y0, y1⟩
  obtain ⟨k, hk⟩ := crun_ex hz _ β rfl _ [(x, y)] (Nat.le_refl _) h.1 h.2.1 hw ⟨ρ, (h.2.2 ρ).mpr q1, fun p hp => by
    have : p = (x, y) := by simpa using hp
    rw [this]; exact q2⟩
  obtain ⟨new, n1, n2, n3⟩ := crun_new hz k β _ hk h.1 h.2.1 hw
  refine ⟨new ++ β, rep_put (Rs := []) h n1 n2 (fun ρ => ?_)⟩
  rw [n3 ρ, peq_cons]
  exact ⟨fun q => ⟨q.1, q.2.1⟩, fun q => ⟨q.1, q.2, fun p hp => by cases hp⟩⟩
/-- what two systems make of a node is the same row -/
theorem row_same (hz : zok g N) (hz' : zok g' N') (h : rep g N β E) (h' : rep g' N' β' E') (y0 : 0 ≤ y) (y1 : y < N) (y2 : y < N') (h1 : ∀ ρ, solE g N E ρ → ∃ ρ', solE g' N' E' ρ' ∧ ρ' y = ρ y) (h2 : ∀ ρ', solE g' N' E' ρ' → ∃ ρ, solE g N E ρ ∧ ρ y = ρ' y) : cno [] (ex g' N' β' y) = cno [] (ex g N β y) := by
  obtain ⟨ρ1, a1, a2⟩ := h1 _ ((h.2.2 _).mp (ex_sol hz h.1 h.2.1))
  obtain ⟨ρ2, b1, b2⟩ := h2 _ ((h'.2.2 _).mp (ex_sol hz' h'.1 h'.2.1))
  have e1 := ex_pr hz' h'.1 h'.2.1 ((h'.2.2 _).mpr a1) y y0 y2
  have e2 := ex_pr hz h.1 h.2.1 ((h.2.2 _).mpr b1) y y0 y1
  rw [a2] at e1
  rw [b2] at e2
  have key : ∀ (N : Int) (ρ : Int → List Int) (l : List Int), (∀ v, v ∈ l → v < 0 → 0 ≤ -1 - v ∧ -1 - v < N) → sbt (fun v => ρ (-1 - v)) l = sbt (fun v => if 0 ≤ -1 - v ∧ -1 - v < N then ρ (-1 - v) else [0]) l := by
    intro N ρ l
    induction l with
    | nil => intro _; rfl
    | cons a l ih =>
      intro hl
      have ih := ih (fun v hv => hl v (List.mem_cons_of_mem _ hv))
      by_cases q : a < 0
      · have := hl a List.mem_cons_self q
        rw [sbt_cons_v q, sbt_cons_v q, if_pos this, ih]
      · rw [sbt_cons_c q, sbt_cons_c q, ih]
  rw [key N' ρ1 _ (fun v hv q => by
    have := (ex_let hz' h'.1 h'.2.1 y y0 y2 v hv).2 q
    exact ⟨this.1, this.2.1⟩)] at e1
  rw [key N ρ2 _ (fun v hv q => by
    have := (ex_let hz h.1 h.2.1 y y0 y1 v hv).2 q
    exact ⟨this.1, this.2.1⟩)] at e2
  refine cno_same (θ := fun v => if 0 ≤ -1 - v ∧ -1 - v < N then ρ2 (-1 - v) else [0]) (θ' := fun v => if 0 ≤ -1 - v ∧ -1 - v < N' then ρ1 (-1 - v) else [0]) (fun v _ => ?_) (fun v _ => ?_) e2 e1
  · by_cases q : 0 ≤ -1 - v ∧ -1 - v < N
    · rw [if_pos q]; exact Typ_ne (b1.1 _ q.1 q.2).1
    · rw [if_neg q]; exact Nat.le_refl _
  · by_cases q : 0 ≤ -1 - v ∧ -1 - v < N'
    · rw [if_pos q]; exact Typ_ne (a1.1 _ q.1 q.2).1
    · rw [if_neg q]; exact Nat.le_refl _
theorem solE_low {D : List (Int × Int)} {ρ : Int → List Int} (ha : agr g g' N) (hN : N ≤ N') (hz : zok g N) (h : solE g' N' (D ++ E) ρ) : solE g N E ρ := ⟨str_low ha hN hz h.1, fun p hp => h.2 p (List.mem_append_right _ hp)⟩
theorem solE_cl {ρ ρ' : Int → List Int} (hz : zok g N) (h : rep g N β E) (y0 : 0 ≤ y) (y1 : y < N) (hc : clsd (rowE g N E y) = true) (q : solE g N E ρ) (q' : solE g N E ρ') : ρ y = ρ' y := by
  rw [rowE_eq hz h y0 y1] at hc
  have hcl := clsd_cno hc
  rw [ex_pr hz h.1 h.2.1 ((h.2.2 _).mpr q) y y0 y1, ex_pr hz h.1 h.2.1 ((h.2.2 _).mpr q') y y0 y1, sbt_cl hcl, sbt_cl hcl]
/-- what is closed stays as it is -/
theorem row_cl {D : List (Int × Int)} (hz : zok g N) (hz' : zok g' N') (ha : agr g g' N) (hN : N ≤ N') (h : rep g N β E) (h' : rep g' N' β' (D ++ E)) (y0 : 0 ≤ y) (y1 : y < N) (hc : clsd (rowE g N E y) = true) : rowE g' N' (D ++ E) y = rowE g N E y := by
  rw [rowE_eq hz h y0 y1, rowE_eq hz' h' y0 (by omega)]
  refine row_same hz hz' h h' y0 y1 (by omega) (fun ρ q => ?_) (fun ρ' q => ⟨ρ', solE_low ha hN hz q, rfl⟩)
  have q' := (h'.2.2 _).mp (ex_sol hz' h'.1 h'.2.1)
  exact ⟨_, q', solE_cl hz h y0 y1 hc (solE_low ha hN hz q') q⟩
/-- nodes apart, of a goal that is closed -/
def blkd (g : zH) (N : Int) (E : List (Int × Int)) (lo hi x0 : Int) : Prop := hi ≤ N ∧ (0 ≤ x0 ∧ x0 < lo) ∧ clsd (rowE g N E x0) = true ∧ (∀ m, lo ≤ m → m < hi → ∀ q, q < pN (gh g m) → lo ≤ gp g m q) ∧ (∀ m, hi ≤ m → m < N → ∀ q, q < pN (gh g m) → hi ≤ gp g m q) ∧ (∀ p, p ∈ E → (lo ≤ p.1 ∧ p.1 < hi → p.2 = x0 ∨ (lo ≤ p.2 ∧ p.2 < hi)) ∧ (¬ (lo ≤ p.1 ∧ p.1 < hi) → ¬ (lo ≤ p.2 ∧ p.2 < hi)))
/-- a node's row stays as it is -/
def frz (L : Int) (g : zH) (N : Int) (E : List (Int × Int)) (y : Int) (r : List Int) : Prop := (0 ≤ y ∧ y < N) ∧ rowE g N E y = r ∧ (clsd r = true ∨ ∃ lo hi x0, L ≤ lo ∧ lo ≤ y ∧ y < hi ∧ blkd g N E lo hi x0)
/-- nodes and pairs more: new nodes stand on new ones, one of each pair is new -/
def stepE (g : zH) (N : Int) (E : List (Int × Int)) (g' : zH) (N' : Int) (E' : List (Int × Int)) (Y : Int → Prop) : Prop := zok g' N' ∧ N ≤ N' ∧ agr g g' N ∧ (∀ m, N ≤ m → m < N' → ∀ q, q < pN (gh g' m) → N ≤ gp g' m q) ∧ ∃ D, E' = D ++ E ∧ ∀ p, p ∈ D → (N ≤ p.1 ∧ p.1 < N') ∧ (Y p.2 ∨ N ≤ p.2) ∧ 0 ≤ p.2 ∧ p.2 < N'
theorem frz.mono {L L' : Int} {r : List Int} (h : frz L g N E y r) (hL : L' ≤ L) : frz L' g N E y r := by
  obtain ⟨h1, h2, h3⟩ := h
  refine ⟨h1, h2, ?_⟩
  rcases h3 with w | ⟨lo, hi, x0, w1, w2⟩
  · exact Or.inl w
  · exact Or.inr ⟨lo, hi, x0, by omega, w2⟩
theorem frz_step {L : Int} {r : List Int} {Y : Int → Prop} (hz : zok g N) (h : rep g N β E) (h' : rep g' N' β' E') (st : stepE g N E g' N' E' Y) (hY : ∀ v, Y v → v < L) (f : frz L g N E y r) : frz L g' N' E' y r := by
  obtain ⟨hz', hN, ha, hp, D, hD, hD2⟩ := st
  subst hD
  obtain ⟨⟨y0, y1⟩, h2, h3⟩ := f
  rcases h3 with w | ⟨lo, hi, x0, w1, w2, w3, b1, ⟨b2, b2'⟩, b3, b4, b5, b6⟩
  · refine ⟨⟨y0, by omega⟩, ?_, Or.inl w⟩
    rw [row_cl hz hz' ha hN h h' y0 y1 (by rw [h2]; exact w)]
    exact h2
  · have hrow : rowE g' N' (D ++ E) y = rowE g N E y := by
      rw [rowE_eq hz h y0 y1, rowE_eq hz' h' y0 (by omega)]
      refine row_same hz hz' h h' y0 y1 (by omega) (fun ρ q => ?_) (fun ρ' q => ⟨ρ', solE_low ha hN hz q, rfl⟩)
      have q' := (h'.2.2 _).mp (ex_sol hz' h'.1 h'.2.1)
      generalize ex g' N' β' = ρ1 at q'
      have ql := solE_low ha hN hz q'
      refine ⟨fun m => if lo ≤ m ∧ m < hi then ρ m else ρ1 m, ⟨fun m m0 m1 => ?_, fun p hpm => ?_⟩, if_pos ⟨w2, w3⟩⟩
      · dsimp only
        by_cases qm : lo ≤ m ∧ m < hi
        · rw [if_pos qm]
          obtain ⟨c1, c2⟩ := q.1 m m0 (by omega)
          obtain ⟨d1, d2⟩ := ha m m0 (by omega)
          rw [d1]
          refine ⟨c1, fun hu => ?_⟩
          rw [c2 hu]
          refine congrArg _ (flat_congr (fun k hk => ?_))
          rw [d2 k]
          have e1 := b4 m qm.1 qm.2 k hk
          have e2 := (hz m m0 (by omega)).2 k hk
          rw [if_pos ⟨e1, by omega⟩]
        · rw [if_neg qm]
          obtain ⟨c1, c2⟩ := q'.1 m m0 m1
          refine ⟨c1, fun hu => ?_⟩
          rw [c2 hu]
          refine congrArg _ (flat_congr (fun k hk => ?_))
          have e2 := (hz' m m0 m1).2 k hk
          have e3 : ¬ (lo ≤ gp g' m k ∧ gp g' m k < hi) := fun w => by
            rcases Int.lt_or_le m lo with a | a
            · omega
            · rcases Int.lt_or_le m N with b | b
              · obtain ⟨d1, d2⟩ := ha m m0 b
                have := b5 m (by omega) b k (by rw [← d1]; exact hk)
                rw [d2 k] at w
                omega
              · have := hp m b m1 k hk
                omega
          rw [if_neg e3]
      · dsimp only
        rcases List.mem_append.mp hpm with a | a
        · obtain ⟨⟨c1, c1'⟩, c2, c3, c4⟩ := hD2 p a
          rw [if_neg (by omega)]
          have : ¬ (lo ≤ p.2 ∧ p.2 < hi) := fun w => by
            rcases c2 with c2 | c2
            · have := hY _ c2
              omega
            · omega
          rw [if_neg this]
          exact q'.2 p hpm
        · obtain ⟨c1, c2⟩ := b6 p a
          by_cases q1 : lo ≤ p.1 ∧ p.1 < hi
          · rw [if_pos q1]
            rcases c1 q1 with e | e
            · rw [if_neg (by omega), e, ← solE_cl hz h b2 (by omega) b3 q ql, ← e]
              exact q.2 p a
            · rw [if_pos e]
              exact q.2 p a
          · rw [if_neg q1, if_neg (c2 q1)]
            exact q'.2 p hpm
    refine ⟨⟨y0, by omega⟩, by rw [hrow]; exact h2, Or.inr ⟨lo, hi, x0, w1, w2, w3, by omega, ⟨b2, b2'⟩, ?_, fun m m0 m1 q hq => ?_, fun m m0 m1 q hq => ?_, fun p hpm => ?_⟩⟩
    · rw [row_cl hz hz' ha hN h h' b2 (by omega) b3]; exact b3
    · rcases Int.lt_or_le m 0 with a | a
      · omega
      · obtain ⟨d1, d2⟩ := ha m a (by omega)
        rw [d2 q]
        exact b4 m m0 m1 q (by rw [← d1]; exact hq)
    · rcases Int.lt_or_le m N with a | a
      · obtain ⟨d1, d2⟩ := ha m (by omega) a
        rw [d2 q]
        exact b5 m m0 a q (by rw [← d1]; exact hq)
      · have := hp m a m1 q hq
        omega
    · rcases List.mem_append.mp hpm with a | a
      · obtain ⟨⟨c1, c1'⟩, c2, c3, c4⟩ := hD2 p a
        refine ⟨fun w => by omega, fun _ w => ?_⟩
        rcases c2 with c2 | c2
        · have := hY _ c2
          omega
        · omega
      · exact b6 p a
end ZFz
