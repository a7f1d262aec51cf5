/-! Whether an unknown stands in a type; ties that go again. -/
def stk (f : Int → Int) : List Int → Prop
  | [] => True
  | a :: P => f (P.length : Nat) = a ∧ stk f P
theorem stk_ge {f : Int → Int} {v : Int} : ∀ {P : List Int} {m : Nat}, P.length ≤ m → stk f P → stk (upI f (m : Int) v) P := by
  intro P
  induction P with
  | nil => intro _ _ _; trivial
  | cons a P ih =>
    intro m hm h
    rw [List.length_cons] at hm
    refine ⟨?_, ih (by omega) h.2⟩
    unfold upI
    rw [if_neg (by omega)]
    exact h.1
theorem stk_up {f : Int → Int} {P : List Int} {a : Int} (h : stk f P) : stk (upI f (P.length : Nat) a) (a :: P) := by
  refine ⟨?_, stk_ge (Nat.le_refl _) h⟩
  unfold upI
  rw [if_pos rfl]
/-- what is laid on a pile: the first below -/
def psh {α : Type} (f : Nat → α) (k j : Nat) (P : List α) : List α := ((List.range' k j).map f).reverse ++ P
theorem psh_0 {α : Type} (f : Nat → α) (k : Nat) (P : List α) : psh f k 0 P = P := rfl
theorem psh_s {α : Type} (f : Nat → α) (k j : Nat) (P : List α) : psh f k (j + 1) P = psh f (k + 1) j (f k :: P) := by
  unfold psh
  rw [List.range'_succ, List.map_cons, List.reverse_cons, List.append_assoc]
  rfl
theorem psh_mem {α : Type} {f : Nat → α} {j : Nat} {P : List α} {a : α} : a ∈ psh f 0 j P ↔ (∃ k, k < j ∧ a = f k) ∨ a ∈ P := by
  unfold psh
  rw [List.mem_append, List.mem_reverse, List.mem_map]
  constructor
  · rintro (⟨k, hk, e⟩ | h)
    · exact Or.inl ⟨k, by have := List.mem_range'_1.mp hk; omega, e.symm⟩
    · exact Or.inr h
  · rintro (⟨k, hk, e⟩ | h)
    · exact Or.inl ⟨k, List.mem_range'_1.mpr (by omega), e.symm⟩
    · exact Or.inr h
theorem psh_len {α : Type} (f : Nat → α) (k j : Nat) (P : List α) : (psh f k j P).length = j + P.length := by
  unfold psh
  simp
/-- how many of Rs stand below -/
def dR (Rs : List Int) (r : Int → Nat) (n : Int) : Nat := cnt (fun m => decide (r m < r n)) Rs
theorem dR_lt {Rs : List Int} {r : Int → Nat} {a b : Int} (ha : a ∈ Rs) (h : r a < r b) : dR Rs r a < dR Rs r b :=
  cnt_lt (fun m _ hm => decide_eq_true (by have := of_decide_eq_true hm; omega)) ha (decide_eq_true h) (fun q => absurd (of_decide_eq_true q) (by omega))
theorem dR_le {Rs : List Int} {r : Int → Nat} {a b : Int} (h : r a ≤ r b) : dR Rs r a ≤ dR Rs r b :=
  cnt_le (fun m _ hm => decide_eq_true (by have := of_decide_eq_true hm; omega))
theorem dR_max {Rs : List Int} {r : Int → Nat} {a : Int} (ha : a ∈ Rs) : dR Rs r a < Rs.length := cnt_ltl ha (fun q => absurd (of_decide_eq_true q) (by omega))
/-- nodes among which all lies that is looked at -/
def sml (g : zH) (N : Int) (β : List (Int × Int)) (Rs : List Int) : Prop := ∀ n, n ∈ Rs → 0 ≤ n ∧ n < N ∧ ∀ k, k < pN (gh g n) → sv g N β (gp g n k) ∈ Rs
def wst (g : zH) (N : Int) (β : List (Int × Int)) (Rs : List Int) (r : Int → Nat) : List Int → Prop
  | [] => True
  | a :: P => (0 ≤ a ∧ a < N ∧ sv g N β a ∈ Rs ∧ P.length + 2 * dR Rs r (sv g N β a) ≤ 2 * Rs.length) ∧ wst g N β Rs r P
def mz (g : zH) (N : Int) (β : List (Int × Int)) (P : List Int) : Nat := (P.map (fun a => (ex g N β a).length)).sum
section ZW
variable {n : Nat} {σ : jS} {g : zH} {N : Int} {β : List (Int × Int)} {x u t : Int} {Rs : List Int} {r : Int → Nat}
theorem pN_3 {g : zH} {N : Int} (hz : zok g N) {y : Int} (h0 : 0 ≤ y) (h1 : y < N) : pN (gh g y) ≤ 3 := by
  unfold pN
  split <;> omega
theorem part_r (hz : zok g N) (hb : bok g N β) (ha : acy g N β) (hr : rkd g N β r) (hs : sml g N β Rs) {y : Int} (hy : y ∈ Rs) {k : Nat} (hk : k < pN (gh g y)) : sv g N β (gp g y k) ∈ Rs ∧ dR Rs r (sv g N β (gp g y k)) < dR Rs r y ∧ 0 ≤ gp g y k ∧ gp g y k < N := by
  obtain ⟨y0, y1, y3⟩ := hs y hy
  have p := (hz y y0 y1).2 k hk
  have h1 := (hr y y0 y1).1 k hk
  have h2 := (sv_all hz hb ha _ p.1 (by omega)).2.2.2.2.2 r hr
  exact ⟨y3 k hk, dR_lt (y3 k hk) (by omega), p.1, by omega⟩
theorem wst_psh (hz : zok g N) (hb : bok g N β) (ha : acy g N β) (hr : rkd g N β r) (hs : sml g N β Rs) {y : Int} (hy : y ∈ Rs) : ∀ (j k : Nat) (P : List Int), k + j = pN (gh g y) → P.length + 2 * dR Rs r y ≤ 2 * Rs.length + k → wst g N β Rs r P → wst g N β Rs r (psh (gp g y) k j P) := by
  intro j
  induction j with
  | zero => intro k P _ _ h; exact h
  | succ j ih =>
    intro k P hk hP h
    rw [psh_s]
    obtain ⟨y0, y1, -⟩ := hs y hy
    have := pN_3 hz y0 y1
    obtain ⟨p1, p2, p3, p4⟩ := part_r hz hb ha hr hs hy (k := k) (by omega)
    exact ih (k + 1) _ (by omega) (by rw [List.length_cons]; omega) ⟨⟨p3, p4, p1, by omega⟩, h⟩
theorem mz_psh (f : Nat → Int) (k j : Nat) (P : List Int) : mz g N β (psh f k j P) = ((List.range' k j).map (fun k => (ex g N β (f k)).length)).sum + mz g N β P := by
  unfold mz psh
  rw [List.map_append, List.sum_append, List.map_reverse, List.sum_reverse, List.map_map]
  rfl
theorem ex_clen (hz : zok g N) (hb : bok g N β) (ha : acy g N β) {y : Int} (h0 : 0 ≤ y) (h1 : y < N) (hu : ¬ gh g y = -1) : (ex g N β y).length = ((List.range' 0 (pN (gh g y))).map (fun k => (ex g N β (gp g y k)).length)).sum + 1 := by
  rw [ex_con hz hb ha h0 h1 hu, List.length_cons, List.length_flatten, List.map_map, List.range_eq_range']
  rfl
theorem ex_cmem (hz : zok g N) (hb : bok g N β) (ha : acy g N β) {y v : Int} (h0 : 0 ≤ y) (h1 : y < N) (hu : ¬ gh g y = -1) (hv : v < 0) : v ∈ ex g N β y ↔ ∃ k, k < pN (gh g y) ∧ v ∈ ex g N β (gp g y k) := by
  have hh : 0 ≤ gh g y := by
    rcases (hz y h0 h1).1 with q | q
    · exact absurd q hu
    · exact q.1
  rw [ex_con hz hb ha h0 h1 hu, List.mem_cons, List.mem_flatten]
  constructor
  · rintro (e | ⟨l, hl, hm⟩)
    · omega
    · obtain ⟨k, hk, e⟩ := map_mem hl
      exact ⟨k, hk, by rw [e]; exact hm⟩
  · rintro ⟨k, hk, hm⟩
    exact Or.inr ⟨_, List.mem_map.mpr ⟨k, List.mem_range.mpr hk, rfl⟩, hm⟩
theorem t_within39 {Q : Int → jS → Prop} {y : Int} (hn : 1 ≤ n) (h : mT σ g N β) (y0 : 0 ≤ y) (y1 : y < N) : ∀ (j k : Nat) (P : List Int) (σ1 : jS), k + j = pN (gh g y) → P.length + j ≤ 3999 → sq [(1039, 0)] σ σ1 → stk (ra σ1 1039 0) P → (∀ σ2, sq [(1039, 0)] σ σ2 → stk (ra σ2 1039 0) (psh (gp g y) k j P) → J n c_Model_isWithin (some .boolean) 9 [some (jo 1 0), some (ji u), none, some (ji ((psh (gp g y) k j P).length : Nat)), none, none] [] σ2 (qI Q)) → J n c_Model_isWithin (some .boolean) 39 [some (jo 1 0), some (ji u), none, some (ji (P.length : Nat)), some (ji y), some (ji (k : Nat))] [] σ1 (qI Q) := by
  intro j
  induction j with
  | zero =>
    intro k P σ1 hk hP hs hst kk
    have h1 := h.sq hs (by decide)
    obtain ⟨hl, hz, hb, h4, h5, h6, h7, h8, h9, h10, h11, h12, h13⟩ := h1
    have l28 := mln_at hl 1028 40000 (by decide)
    refine wp_Model_isWithin_39 ⟨by omega, by omega, y0, by omega, hn, ?_⟩
    rw [h8 y y0 y1]
    refine t_partsOf (by rcases (hz y y0 y1).1 with q | q <;> omega) ?_
    rw [if_pos (by omega)]
    exact kk σ1 hs hst
  | succ j ih =>
    intro k P σ1 hk hP hs hst kk
    have h1 := h.sq hs (by decide)
    obtain ⟨hl, hz, hb, h4, h5, h6, h7, h8, h9, h10, h11, h12, h13⟩ := h1
    have l28 := mln_at hl 1028 40000 (by decide)
    have l29 := mln_at hl 1029 40000 (by decide)
    have l31 := mln_at hl 1031 40000 (by decide)
    have l39 := mln_at hl 1039 4000 (by decide)
    obtain ⟨f1, f2, f3⟩ := h10 y y0 y1 k (by omega)
    refine wp_Model_isWithin_39 ⟨by omega, by omega, y0, by omega, hn, ?_⟩
    rw [h8 y y0 y1]
    refine t_partsOf (by rcases (hz y y0 y1).1 with q | q <;> omega) ?_
    have := pN_3 hz y0 y1
    rw [if_neg (by omega)]
    refine ⟨by omega, by omega, by omega, by omega, ⟨by omega, by omega⟩, by omega, by omega, by omega, by omega, fun σ2 e2 => ⟨⟨by omega, by omega⟩, ⟨by omega, by omega⟩, ?_⟩⟩
    have := ih (k + 1) (gp g y k :: P) σ2 (by omega) (by rw [List.length_cons]; omega) (by rw [e2]; exact hs.pwa 1039 0 _ _ (by decide)) (by
      rw [e2, f3]
      exact stk_up hst) (by rw [← psh_s]; exact kk)
    rw [List.length_cons] at this
    exact_mod_cast this
theorem t_within9 {Q : Int → jS → Prop} (hn : 1 ≤ n) (h : mT σ g N β) (ha : acy g N β) (hr : rkd g N β r) (hs : sml g N β Rs) (hR : Rs.length ≤ 200) (u0 : 0 ≤ u) (u1 : u < N) (hu : gh g u = -1) (hf : bl β u = -1) : ∀ (M : Nat) (P : List Int) (σ1 : jS), mz g N β P ≤ M → sq [(1039, 0)] σ σ1 → stk (ra σ1 1039 0) P → wst g N β Rs r P → (∀ b σ2, sq [(1039, 0)] σ σ2 → (b = 1 ∧ (∃ a, a ∈ P ∧ -1 - u ∈ ex g N β a)) ∨ (b = 0 ∧ ∀ a, a ∈ P → ¬ -1 - u ∈ ex g N β a) → Q b σ2) → J n c_Model_isWithin (some .boolean) 9 [some (jo 1 0), some (ji u), none, some (ji (P.length : Nat)), none, none] [] σ1 (qI Q) := by
  have hz := h.2.1
  have hb := h.2.2.1
  intro M
  induction M with
  | zero =>
    intro P σ1 hM hs1 hst hw hq
    cases P with
    | nil => exact wp_Model_isWithin_9 (by rw [if_pos (by simp)]; exact hq 0 σ1 hs1 (Or.inr ⟨rfl, fun a q => by cases q⟩))
    | cons a P =>
      have := ex_ne hz hb ha hw.1.1 hw.1.2.1
      unfold mz at hM
      rw [List.map_cons, List.sum_cons] at hM
      omega
  | succ M ih =>
    intro P σ1 hM hs1 hst hw hq
    cases P with
    | nil => exact wp_Model_isWithin_9 (by rw [if_pos (by simp)]; exact hq 0 σ1 hs1 (Or.inr ⟨rfl, fun a q => by cases q⟩))
    | cons a P =>
      have h1 := h.sq hs1 (by decide)
      obtain ⟨⟨a0, a1, a2, a3⟩, hw⟩ := hw
      have l39 := mln_at h1.1 1039 4000 (by decide)
      have e0 : (((a :: P).length : Nat) : Int) + (-1) = (P.length : Nat) := by rw [List.length_cons]; omega
      refine wp_Model_isWithin_9 ?_
      rw [e0, if_neg (by rw [List.length_cons]; omega)]
      refine ⟨⟨by omega, by omega⟩, by omega, by omega, by omega, by omega, hn, ?_⟩
      rw [hst.1]
      refine t_seen h1 ha a0 a1 ?_
      obtain ⟨i1, i2, i3, i4, -, -⟩ := sv_all hz hb ha a a0 a1
      by_cases e : sv g N β a = u
      · rw [if_neg (fun q => q e)]
        refine hq 1 σ1 hs1 (Or.inl ⟨rfl, a, List.mem_cons_self, ?_⟩)
        rw [← i4, e, ex_un hz hb ha u0 u1 hu hf]
        exact List.mem_cons_self
      · rw [if_pos e]
        have hlen : (psh (gp g (sv g N β a)) 0 (pN (gh g (sv g N β a))) P).length ≤ 600 := by
          rw [psh_len]
          have := pN_3 hz i2 i3
          omega
        refine t_within39 hn h i2 i3 (pN (gh g (sv g N β a))) 0 P σ1 (by omega) (by have := pN_3 hz i2 i3; omega) hs1 hst.2 (fun σ2 hs2 hst2 => ih _ σ2 ?_ hs2 hst2 (wst_psh hz hb ha hr hs a2 _ 0 P (by omega) a3 hw) (fun b σ3 hs3 hb3 => hq b σ3 hs3 ?_))
        · rw [mz_psh]
          unfold mz at hM ⊢
          rw [List.map_cons, List.sum_cons, ← i4] at hM
          by_cases q : gh g (sv g N β a) = -1
          · rw [q]
            have := ex_ne hz hb ha i2 i3
            show 0 + _ ≤ _
            omega
          · rw [ex_clen hz hb ha i2 i3 q] at hM
            omega
        · have key : -1 - u ∈ ex g N β a ↔ ∃ k, k < pN (gh g (sv g N β a)) ∧ -1 - u ∈ ex g N β (gp g (sv g N β a) k) := by
            rw [← i4]
            by_cases q : gh g (sv g N β a) = -1
            · rw [ex_un hz hb ha i2 i3 q (i1 q)]
              constructor
              · intro m
                have : -1 - u = -1 - sv g N β a := by simpa using m
                exact absurd (by omega : sv g N β a = u) e
              · rintro ⟨k, hk, -⟩
                rw [q] at hk
                exact absurd hk (Nat.not_lt_zero k)
            · exact ex_cmem hz hb ha i2 i3 q (by omega)
          rcases hb3 with ⟨e1, c, hc, hm⟩ | ⟨e1, hc⟩
          · refine Or.inl ⟨e1, ?_⟩
            rcases psh_mem.mp hc with ⟨k, hk, e2⟩ | q
            · exact ⟨a, List.mem_cons_self, key.mpr ⟨k, hk, by rw [← e2]; exact hm⟩⟩
            · exact ⟨c, List.mem_cons_of_mem _ q, hm⟩
          · refine Or.inr ⟨e1, fun c hc2 hm => ?_⟩
            rcases List.mem_cons.mp hc2 with q | q
            · rw [q] at hm
              obtain ⟨k, hk, hm⟩ := key.mp hm
              exact hc _ (psh_mem.mpr (Or.inl ⟨k, hk, rfl⟩)) hm
            · exact hc c (psh_mem.mpr (Or.inr q)) hm
/-- whether u stands in x -/
theorem t_isWithin {Q : Int → jS → Prop} (hn : 1 ≤ n) (h : mT σ g N β) (ha : acy g N β) (hs : sml g N β Rs) (hR : Rs.length ≤ 200) (u0 : 0 ≤ u) (u1 : u < N) (hu : gh g u = -1) (hf : bl β u = -1) (x0 : 0 ≤ x) (x1 : x < N) (hx : sv g N β x ∈ Rs) (hq : ∀ b σ2, sq [(1039, 0)] σ σ2 → (b = 1 ∧ -1 - u ∈ ex g N β x) ∨ (b = 0 ∧ ¬ -1 - u ∈ ex g N β x) → Q b σ2) : TrI n i_Model_isWithin [jo 1 0, ji u, ji x] σ Q := by
  obtain ⟨r, hr⟩ := ha
  have ha : acy g N β := ⟨r, hr⟩
  have l39 := mln_at h.1 1039 4000 (by decide)
  refine wp_Model_isWithin ⟨by omega, by omega, by omega, fun σ1 e1 => ?_⟩
  refine t_within9 hn h ha hr hs hR u0 u1 hu hf _ [x] σ1 (Nat.le_refl _) (by rw [e1]; exact (sq.rf _ σ).pwa 1039 0 _ _ (by decide)) (by
    rw [e1]
    exact stk_up (P := []) trivial) ⟨⟨x0, x1, hx, by have := dR_max (r := r) hx; simp; omega⟩, trivial⟩ (fun b σ2 h2 hb => hq b σ2 h2 ?_)
  rcases hb with ⟨e, c, hc, hm⟩ | ⟨e, hc⟩
  · have : c = x := by simpa using hc
    rw [this] at hm
    exact Or.inl ⟨e, hm⟩
  · exact Or.inr ⟨e, hc x List.mem_cons_self⟩
end ZW
