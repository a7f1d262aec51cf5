/-! Two types become one: the class's way. -/
/-- from the last on: the first on top -/
def pud {α : Type} (f : Nat → α) (k j : Nat) (P : List α) : List α := (List.range' k j).map f ++ P
theorem pud_mem {α : Type} {f : Nat → α} {j : Nat} {P : List α} {a : α} : a ∈ pud f 0 j P ↔ (∃ k, k < j ∧ a = f k) ∨ a ∈ P := by
  unfold pud
  rw [List.mem_append, List.mem_map]
  constructor
  · rintro (⟨k, hk, e⟩ | h)
    · exact Or.inl ⟨k, by have := List.mem_range'_1.mp hk; omega, e.symm⟩
    · exact Or.inr h
  · rintro (⟨k, hk, e⟩ | h)
    · exact Or.inl ⟨k, List.mem_range'_1.mpr (by omega), e.symm⟩
    · exact Or.inr h
theorem pud_s {α : Type} (f : Nat → α) (k j : Nat) (P : List α) : pud f k (j + 1) P = f k :: pud f (k + 1) j P := by
  unfold pud
  rw [List.range'_succ, List.map_cons, List.cons_append]
theorem pud_len {α : Type} (f : Nat → α) (k j : Nat) (P : List α) : (pud f k j P).length = j + P.length := by
  unfold pud
  simp
/-- the way goes on from here for k steps, and comes to its end well -/
def crun (g : zH) (N : Int) : Nat → List (Int × Int) → List (Int × Int) → Prop
  | 0, _, P => P = []
  | _ + 1, _, [] => False
  | k + 1, β, (a, b) :: P =>
    (sv g N β a = sv g N β b ∧ crun g N k β P) ∨
    (¬ sv g N β a = sv g N β b ∧ gh g (sv g N β b) = -1 ∧ ¬ -1 - sv g N β b ∈ ex g N β (sv g N β a) ∧ crun g N k ((sv g N β b, sv g N β a) :: β) P) ∨
    (¬ sv g N β a = sv g N β b ∧ ¬ gh g (sv g N β b) = -1 ∧ gh g (sv g N β a) = -1 ∧ ¬ -1 - sv g N β a ∈ ex g N β (sv g N β b) ∧ crun g N k ((sv g N β a, sv g N β b) :: β) P) ∨
    (¬ sv g N β a = sv g N β b ∧ ¬ gh g (sv g N β b) = -1 ∧ ¬ gh g (sv g N β a) = -1 ∧ gh g (sv g N β a) = gh g (sv g N β b) ∧ crun g N k β (pud (fun i => (gp g (sv g N β a) i, gp g (sv g N β b) i)) 0 (pN (gh g (sv g N β a))) P))
section ZQ
variable {n : Nat} {σ : jS} {g : zH} {N : Int} {β : List (Int × Int)} {x y u t a b x9 y9 : Int} {Rs : List Int} {r : Int → Nat} {ρ : Int → List Int}
theorem peq_pud {P : List (Int × Int)} {f : Nat → Int × Int} {m : Nat} : peq ρ (pud f 0 m P) ↔ (∀ k, k < m → ρ (f k).1 = ρ (f k).2) ∧ peq ρ P := by
  constructor
  · intro h
    exact ⟨fun k hk => h _ (pud_mem.mpr (Or.inl ⟨k, hk, rfl⟩)), fun p hp => h p (pud_mem.mpr (Or.inr hp))⟩
  · rintro ⟨h1, h2⟩ p hp
    rcases pud_mem.mp hp with ⟨k, hk, e⟩ | e
    · rw [e]; exact h1 k hk
    · exact h2 p e
theorem mz2_pud (f : Nat → Int × Int) (k j : Nat) (P : List (Int × Int)) : mz2 g N β (pud f k j P) = ((List.range' k j).map (fun k => (ex g N β (f k).1).length)).sum + mz2 g N β P := by
  unfold mz2 pud
  rw [List.map_append, List.sum_append, List.map_map]
  rfl
theorem ust_pud (hz : zok g N) (hb : bok g N β) (ha : acy g N β) (hs : sml g N β Rs) {x y : Int} (hx : x ∈ Rs) (hy : y ∈ Rs) (he : gh g x = gh g y) {P : List (Int × Int)} (hP : ∀ r, rkd g N β r → P.length + 2 * dR Rs r x ≤ 2 * Rs.length) (h : ust g N β Rs P) : ∀ (j k : Nat), k + j = pN (gh g x) → ust g N β Rs (pud (fun k => (gp g x k, gp g y k)) k j P) := by
  intro j
  induction j with
  | zero => intro k _; exact h
  | succ j ih =>
    intro k hk
    rw [pud_s]
    obtain ⟨x0, x1, hx2⟩ := hs x hx
    obtain ⟨y0, y1, hy2⟩ := hs y hy
    have := pN_3 hz x0 x1
    have px := (hz x x0 x1).2 k (by omega)
    have py := (hz y y0 y1).2 k (by rw [← he]; omega)
    refine ⟨⟨px.1, by omega, py.1, by omega, hx2 k (by omega), hy2 k (by rw [← he]; omega), fun r hr => ?_⟩, ih (k + 1) (by omega)⟩
    have := (part_r hz hb ha hr hs hx (k := k) (by omega)).2.1
    have := hP r hr
    rw [pud_len]
    omega
/-- what can be solved is solved in some number of steps -/
theorem crun_ex (hz : zok g N) : ∀ (U : Nat) (β : List (Int × Int)), zu g N - β.length = U → ∀ (M : Nat) (P : List (Int × Int)), mz2 g N β P ≤ M → bok g N β → acy g N β → (∀ p, p ∈ P → 0 ≤ p.1 ∧ p.1 < N ∧ 0 ≤ p.2 ∧ p.2 < N) → (∃ ρ, sol g N β ρ ∧ peq ρ P) → ∃ k, crun g N k β P := by
  intro U
  induction U using Nat.strongRecOn with
  | ind U ihU =>
    intro β hU M
    induction M with
    | zero =>
      intro P hM hb ha hw hρ
      cases P with
      | nil => exact ⟨0, rfl⟩
      | cons p P =>
        obtain ⟨a, b⟩ := p
        have : 1 ≤ (ex g N β a).length := ex_ne hz hb ha (hw _ List.mem_cons_self).1 (hw _ List.mem_cons_self).2.1
        unfold mz2 at hM
        rw [List.map_cons, List.sum_cons] at hM
        dsimp only at hM
        omega
    | succ M ih =>
      intro P hM hb ha hw hρ
      cases P with
      | nil => exact ⟨0, rfl⟩
      | cons p P =>
        obtain ⟨a, b⟩ := p
        obtain ⟨a0, a1, b0, b1⟩ := hw _ List.mem_cons_self
        have hwP : ∀ p, p ∈ P → 0 ≤ p.1 ∧ p.1 < N ∧ 0 ≤ p.2 ∧ p.2 < N := fun p hp => hw p (List.mem_cons_of_mem _ hp)
        obtain ⟨i1, i2, i3, i4, i5, -⟩ := sv_all hz hb ha a a0 a1
        obtain ⟨k1, k2, k3, k4, k5, -⟩ := sv_all hz hb ha b b0 b1
        obtain ⟨ρ, q1, q2⟩ := hρ
        rw [peq_cons] at q2
        have q3 : ρ (sv g N β a) = ρ (sv g N β b) := by rw [i5 ρ q1, k5 ρ q1]; exact q2.1
        have hMP : mz2 g N β P ≤ M := by
          have : 1 ≤ (ex g N β a).length := ex_ne hz hb ha a0 a1
          unfold mz2 at hM ⊢
          rw [List.map_cons, List.sum_cons] at hM
          dsimp only at hM
          omega
        have bnd : ∀ u t, svd g β u → svd g β t → gh g u = -1 → ¬ t = u → 0 ≤ u → u < N → 0 ≤ t → t < N → ρ u = ρ t → ¬ -1 - u ∈ ex g N β t ∧ ∃ k, crun g N k ((u, t) :: β) P := by
          intro u t us ts hu tu u0 u1 t0 t1 hut
          have hf := us hu
          have hm : ¬ -1 - u ∈ ex g N β t := fun hm => by
            refine occ_no hz hb ha q1 t0 t1 u0 u1 hm (fun q => ?_) hut
            by_cases gt : gh g t = -1
            · rw [ex_un hz hb ha t0 t1 gt (ts gt)] at q
              have : -1 - t = -1 - u := by simpa using q
              omega
            · rw [ex_con hz hb ha t0 t1 gt] at q
              have := (List.cons.inj q).1
              rcases (hz t t0 t1).1 with w | w
              · exact gt w
              · omega
          have hb2 : bok g N ((u, t) :: β) := bind_bok hb u0 u1 hu hf t0 t1
          have hlen := bl_len hb2
          rw [List.length_cons] at hlen
          exact ⟨hm, ihU (zu g N - ((u, t) :: β).length) (by rw [List.length_cons]; omega) ((u, t) :: β) rfl _ P (Nat.le_refl _) hb2 (bind_acy hz hb ha u0 u1 hu hf t0 t1 hm) hwP ⟨ρ, (bind_sol u0 u1 hu hf t0).mpr ⟨q1, hut⟩, q2.2⟩⟩
        by_cases exy : sv g N β a = sv g N β b
        · obtain ⟨k, hk⟩ := ih P hMP hb ha hwP ⟨ρ, q1, q2.2⟩
          exact ⟨k + 1, Or.inl ⟨exy, hk⟩⟩
        · by_cases gy : gh g (sv g N β b) = -1
          · obtain ⟨m1, k, hk⟩ := bnd _ _ k1 i1 gy exy k2 k3 i2 i3 q3.symm
            exact ⟨k + 1, Or.inr (Or.inl ⟨exy, gy, m1, hk⟩)⟩
          · by_cases gx : gh g (sv g N β a) = -1
            · obtain ⟨m1, k, hk⟩ := bnd _ _ i1 k1 gx (fun q => exy q.symm) i2 i3 k2 k3 q3
              exact ⟨k + 1, Or.inr (Or.inr (Or.inl ⟨exy, gy, gx, m1, hk⟩))⟩
            · by_cases he : gh g (sv g N β a) = gh g (sv g N β b)
              · have q4 := (con_dec hz q1 i2 i3 k2 k3 gx he).mp q3
                obtain ⟨k, hk⟩ := ih (pud (fun i => (gp g (sv g N β a) i, gp g (sv g N β b) i)) 0 (pN (gh g (sv g N β a))) P) (by
                  rw [mz2_pud]
                  unfold mz2 at hM ⊢
                  rw [List.map_cons, List.sum_cons] at hM
                  dsimp only at hM ⊢
                  rw [← i4, ex_clen hz hb ha i2 i3 gx] at hM
                  omega) hb ha (fun p hp => by
                  rcases pud_mem.mp hp with ⟨k, hk, e⟩ | w
                  · have px := (hz _ i2 i3).2 k hk
                    have py := (hz _ k2 k3).2 k (by rw [← he]; exact hk)
                    rw [e]
                    exact ⟨px.1, Int.lt_trans px.2 i3, py.1, Int.lt_trans py.2 k3⟩
                  · exact hwP p w) ⟨ρ, q1, peq_pud.mpr ⟨q4, q2.2⟩⟩
                exact ⟨k + 1, Or.inr (Or.inr (Or.inr ⟨exy, gy, gx, he, hk⟩))⟩
              · exact absurd q3 (con_no q1 i2 i3 k2 k3 gx gy he)
theorem c_pushPair {Q : jS → Prop} {P : List (Int × Int)} (h : cln σ) (e1 : rs σ 9013 0 = 2 * (P.length : Nat)) (e2 : stk2 (ra σ 9009 0) P) (hP : P.length ≤ 1000) (hq : ∀ σ', sq [(9009, 0), (9013, 0)] σ σ' → rs σ' 9013 0 = 2 * (((a, b) :: P).length : Nat) → stk2 (ra σ' 9009 0) ((a, b) :: P) → Q σ') : TrV n i_Terms_pushPair [jo 9 0, ji a, ji b] σ Q := by
  have l9 := cln_at h 9009 0 2048 (by decide)
  refine wp_Terms_pushPair ⟨by omega, ⟨by omega, by omega⟩, ?_⟩
  rw [if_neg (by omega)]
  refine ⟨by omega, by omega, by omega, fun s1 f1 => ?_⟩
  have r1 : rs s1 9013 0 = 2 * (P.length : Nat) := by rw [f1]; exact e1
  have r2 : rl s1 9009 0 = 2048 := by rw [f1]; exact l9
  rw [r1, r2]
  refine ⟨by omega, ⟨by omega, by omega⟩, by omega, by omega, fun s2 f2 => ?_⟩
  have r3 : rs s2 9013 0 = 2 * (P.length : Nat) := by rw [f2]; exact r1
  rw [r3]
  refine ⟨⟨by omega, by omega⟩, fun s3 f3 => hq s3 ?_ ?_ ?_⟩
  · rw [f3, f2, f1]
    exact (((sq.rf _ σ).pwa 9009 0 _ _ (by decide)).pwa 9009 0 _ _ (by decide)).pws 9013 0 _ (by decide)
  · rw [f3, rs_ws, if_pos ⟨rfl, rfl⟩, List.length_cons]
    omega
  · rw [f3, f2, f1, e1]
    exact stk2_up e2
theorem c_pushParts {Q : jS → Prop} (hn : 2 ≤ n) (h : cT σ g N β) (x0 : 0 ≤ x) (x1 : x < N) (y0 : 0 ≤ y) (y1 : y < N) (he : gh g x = gh g y) {P : List (Int × Int)} (e1 : rs σ 9013 0 = 2 * (P.length : Nat)) (e2 : stk2 (ra σ 9009 0) P) (hP : P.length ≤ 900) (hq : ∀ σ', sq [(9009, 0), (9013, 0)] σ σ' → rs σ' 9013 0 = 2 * ((pud (fun k => (gp g x k, gp g y k)) 0 (pN (gh g x)) P).length : Nat) → stk2 (ra σ' 9009 0) (pud (fun k => (gp g x k, gp g y k)) 0 (pN (gh g x)) P) → Q σ') : TrV n i_Terms_pushPairsOfParts [jo 9 0, ji x, ji y] σ Q := by
  have hz := h.1.2.1
  have p3 := pN_3 hz x0 x1
  have loop : ∀ (k j : Nat) (σ1 : jS), k + j = pN (gh g x) → sq [(9009, 0), (9013, 0)] σ σ1 → rs σ1 9013 0 = 2 * ((pud (fun k => (gp g x k, gp g y k)) k j P).length : Nat) → stk2 (ra σ1 9009 0) (pud (fun k => (gp g x k, gp g y k)) k j P) → J n c_Terms_pushPairsOfParts none 11 [some (jo 9 0), some (ji x), some (ji y), some (ji ((k : Nat) - 1))] [] σ1 (qV Q) := by
    intro k
    induction k with
    | zero =>
      intro j σ1 hk f1 f2 f3
      refine wp_Terms_pushPairsOfParts_11 ?_
      rw [if_pos (by omega)]
      rw [Nat.zero_add] at hk
      rw [hk] at f2 f3
      exact hq σ1 f1 f2 f3
    | succ k ih =>
      intro j σ1 hk f1 f2 f3
      have h1 := h.sq f1 (by decide)
      refine wp_Terms_pushPairsOfParts_11 ?_
      rw [show (((k + 1 : Nat) : Int) - 1) = (k : Nat) by omega, if_neg (by omega)]
      refine ⟨by omega, by omega, c_part h1.1 x0 x1 (by omega) (c_part h1.1 y0 y1 (by rw [← he]; omega) (c_pushPair h1.1.1 f2 f3 (by rw [pud_len]; omega) (fun σ2 g1 g2 g3 => ⟨⟨by omega, by omega⟩, ?_⟩)))⟩
      rw [← pud_s (fun k => (gp g x k, gp g y k)) k j P] at g2 g3
      exact ih (j + 1) σ2 (by omega) (f1.tr g1) g2 g3
  refine wp_Terms_pushPairsOfParts ⟨by omega, by omega, c_signOf h.1 x0 x1 (c_fparts2 hz x0 x1 ⟨⟨by omega, by omega⟩, ?_⟩)⟩
  exact loop (pN (gh g x)) 0 σ (by omega) (sq.rf _ σ) e1 e2
end ZQ
