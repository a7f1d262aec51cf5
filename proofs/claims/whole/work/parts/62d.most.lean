/-! How many steps: a run counted again at its end. -/
def crE (g : zH) (N : Int) (βe : List (Int × Int)) : Nat → List (Int × Int) → List (Int × Int) → Prop
  | 0, β, P => P = [] ∧ β = βe
  | _ + 1, _, [] => False
  | k + 1, β, (a, b) :: P =>
    (sv g N β a = sv g N β b ∧ crE g N βe k β P) ∨
    (¬ sv g N β a = sv g N β b ∧ gh g (sv g N β b) = -1 ∧ ¬ -1 - sv g N β b ∈ ex g N β (sv g N β a) ∧ crE g N βe k ((sv g N β b, sv g N β a) :: β) P) ∨
    (¬ sv g N β a = sv g N β b ∧ ¬ gh g (sv g N β b) = -1 ∧ gh g (sv g N β a) = -1 ∧ ¬ -1 - sv g N β a ∈ ex g N β (sv g N β b) ∧ crE g N βe k ((sv g N β a, sv g N β b) :: β) P) ∨
    (¬ sv g N β a = sv g N β b ∧ ¬ gh g (sv g N β b) = -1 ∧ ¬ gh g (sv g N β a) = -1 ∧ gh g (sv g N β a) = gh g (sv g N β b) ∧ crE g N βe k β (pud (fun i => (gp g (sv g N β a) i, gp g (sv g N β b) i)) 0 (pN (gh g (sv g N β a))) P))
/-- how many are different -/
def dct : List Int → Nat
  | [] => 0
  | a :: l => dct l + (if a ∈ l then 0 else 1)
theorem dct_le : ∀ {l : List Int}, dct l ≤ l.length := by
  intro l
  induction l with
  | nil => exact Nat.le_refl _
  | cons a l ih => unfold dct; rw [List.length_cons]; split <;> omega
theorem dct_map {f : Int → Int} : ∀ {l : List Int}, dct (l.map f) ≤ dct l := by
  intro l
  induction l with
  | nil => exact Nat.le_refl _
  | cons a l ih =>
    rw [List.map_cons]
    unfold dct
    by_cases q : a ∈ l
    · rw [if_pos q, if_pos (List.mem_map_of_mem q)]; exact ih
    · rw [if_neg q]; split <;> omega
theorem dct_mlt {f : Int → Int} {a b : Int} (hab : ¬ a = b) (hf : f a = f b) : ∀ {l : List Int}, a ∈ l → b ∈ l → dct (l.map f) + 1 ≤ dct l := by
  intro l
  induction l with
  | nil => intro h; cases h
  | cons c l ih =>
    intro h1 h2
    rw [List.map_cons]
    unfold dct
    have hle := dct_map (f := f) (l := l)
    by_cases qa : a ∈ l
    · by_cases qb : b ∈ l
      · have := ih qa qb
        by_cases q : c ∈ l
        · rw [if_pos q, if_pos (List.mem_map_of_mem q)]; omega
        · rw [if_neg q]; split <;> omega
      · have hb : b = c := (List.mem_cons.mp h2).resolve_right qb
        rw [← hb, if_neg qb, if_pos (by rw [← hf]; exact List.mem_map_of_mem qa)]
        omega
    · have ha : a = c := (List.mem_cons.mp h1).resolve_right qa
      have qb : b ∈ l := (List.mem_cons.mp h2).resolve_left (fun w => hab (by rw [w]; exact ha))
      rw [← ha, if_neg qa, if_pos (by rw [hf]; exact List.mem_map_of_mem qb)]
      omega
theorem dct_1 {a : Int} : ∀ {l : List Int}, a ∈ l → 1 ≤ dct l := by
  intro l
  induction l with
  | nil => intro h; cases h
  | cons c l ih =>
    intro h
    unfold dct
    by_cases q : c ∈ l
    · rw [if_pos q]
      rcases List.mem_cons.mp h with w | w
      · rw [w] at ih; exact ih q
      · exact ih w
    · rw [if_neg q]; omega
theorem dct_2 {a b : Int} {l : List Int} (hab : ¬ a = b) (h1 : a ∈ l) (h2 : b ∈ l) : 2 ≤ dct l := by
  have h3 := dct_mlt (f := fun _ => 0) hab rfl h1 h2
  have h4 : 1 ≤ dct (l.map (fun _ => (0 : Int))) := dct_1 (a := 0) (List.mem_map.mpr ⟨a, h1, rfl⟩)
  omega
section ZMo
variable {g : zH} {N : Int} {β βe : List (Int × Int)} {x y u t : Int}
theorem crE_of : ∀ (k : Nat) (β P : List (Int × Int)), crun g N k β P → ∃ βe, crE g N βe k β P := by
  intro k
  induction k with
  | zero => intro β P h; exact ⟨β, h, rfl⟩
  | succ k ih =>
    intro β P h
    cases P with
    | nil => exact False.elim h
    | cons p P =>
      obtain ⟨a, b⟩ := p
      rcases h with ⟨e, h⟩ | ⟨e, gb, m, h⟩ | ⟨e, gb, ga, m, h⟩ | ⟨e, gb, ga, he, h⟩
      · obtain ⟨βe, h2⟩ := ih _ _ h
        exact ⟨βe, Or.inl ⟨e, h2⟩⟩
      · obtain ⟨βe, h2⟩ := ih _ _ h
        exact ⟨βe, Or.inr (Or.inl ⟨e, gb, m, h2⟩)⟩
      · obtain ⟨βe, h2⟩ := ih _ _ h
        exact ⟨βe, Or.inr (Or.inr (Or.inl ⟨e, gb, ga, m, h2⟩))⟩
      · obtain ⟨βe, h2⟩ := ih _ _ h
        exact ⟨βe, Or.inr (Or.inr (Or.inr ⟨e, gb, ga, he, h2⟩))⟩
theorem sv_sv (hz : zok g N) (hb : bok g N β) (ha : acy g N β) {n : Int} (n0 : 0 ≤ n) (n1 : n < N) : sv g N β (sv g N β n) = sv g N β n := by
  obtain ⟨i1, i2, i3, -⟩ := sv_all hz hb ha n n0 n1
  exact sv_id hz hb ha i2 i3 i1
def inN (N : Int) (P : List (Int × Int)) : Prop := ∀ p, p ∈ P → 0 ≤ p.1 ∧ p.1 < N ∧ 0 ≤ p.2 ∧ p.2 < N
theorem inN_pud (hz : zok g N) {a b : Int} {P : List (Int × Int)} (a0 : 0 ≤ a) (a1 : a < N) (b0 : 0 ≤ b) (b1 : b < N) (he : gh g a = gh g b) (h : inN N P) : inN N (pud (fun i => (gp g a i, gp g b i)) 0 (pN (gh g a)) P) := fun p hp => by
  rcases pud_mem.mp hp with ⟨q, hq, e2⟩ | w
  · rw [e2]
    have c1 := (hz _ a0 a1).2 q hq
    have c2 := (hz _ b0 b1).2 q (by rw [← he]; exact hq)
    exact ⟨c1.1, by omega, c2.1, by omega⟩
  · exact h p w
/-- a step that ties -/
theorem bnd_fin (hz : zok g N) (hb : bok g N β) (ha : acy g N β) (us : svd g β u) (ts : svd g β t) (hu : gh g u = -1) (u0 : 0 ≤ u) (u1 : u < N) (t0 : 0 ≤ t) (t1 : t < N) (tu : ¬ t = u) (hm : ¬ -1 - u ∈ ex g N β t) : bok g N ((u, t) :: β) ∧ acy g N ((u, t) :: β) ∧ ∀ m, 0 ≤ m → m < N → sv g N ((u, t) :: β) m = if sv g N β m = u then t else sv g N β m := by
  have hf := us hu
  have ha2 := bind_acy hz hb ha u0 u1 hu hf t0 t1 hm
  exact ⟨bind_bok hb u0 u1 hu hf t0 t1, ha2, sv_bind hz hb ha u0 u1 hu hf t0 t1 ts tu ha2⟩
theorem crE_fin (hz : zok g N) : ∀ (k : Nat) (β P : List (Int × Int)), crE g N βe k β P → bok g N β → acy g N β → inN N P → bok g N βe ∧ acy g N βe ∧ (∀ ρ, sol g N βe ρ → sol g N β ρ ∧ peq ρ P) ∧ ∀ n, 0 ≤ n → n < N → sv g N βe (sv g N β n) = sv g N βe n := by
  intro k
  induction k with
  | zero =>
    intro β P h hb ha _
    obtain ⟨e1, e2⟩ := h
    rw [← e2, e1]
    exact ⟨hb, ha, fun ρ h => ⟨h, fun p hp => by cases hp⟩, fun n n0 n1 => sv_sv hz hb ha n0 n1⟩
  | succ k ih =>
    intro β P h hb ha hw
    cases P with
    | nil => exact False.elim h
    | cons p P =>
      obtain ⟨a, b⟩ := p
      obtain ⟨a0, a1, b0, b1⟩ := hw _ List.mem_cons_self
      have hwP : inN N P := fun p hp => hw p (List.mem_cons_of_mem _ hp)
      obtain ⟨i1, i2, i3, i4, i5, -⟩ := sv_all hz hb ha a a0 a1
      obtain ⟨k1, k2, k3, k4, k5, -⟩ := sv_all hz hb ha b b0 b1
      have bnd : ∀ u t, svd g β u → svd g β t → gh g u = -1 → 0 ≤ u → u < N → 0 ≤ t → t < N → ¬ t = u → ¬ -1 - u ∈ ex g N β t → crE g N βe k ((u, t) :: β) P → (∀ ρ : Int → List Int, ρ u = ρ t → ρ (sv g N β a) = ρ (sv g N β b)) → bok g N βe ∧ acy g N βe ∧ (∀ ρ, sol g N βe ρ → sol g N β ρ ∧ peq ρ ((a, b) :: P)) ∧ ∀ n, 0 ≤ n → n < N → sv g N βe (sv g N β n) = sv g N βe n := by
        intro u t us ts hu u0 u1 t0 t1 tu hm hc hut
        obtain ⟨c1, c2, c3⟩ := bnd_fin hz hb ha us ts hu u0 u1 t0 t1 tu hm
        obtain ⟨d1, d2, d3, d4⟩ := ih ((u, t) :: β) P hc c1 c2 hwP
        refine ⟨d1, d2, fun ρ hρ => ?_, fun n n0 n1 => ?_⟩
        · obtain ⟨e1, e2⟩ := d3 ρ hρ
          obtain ⟨f1, f2⟩ := (bind_sol u0 u1 hu (us hu) t0).mp e1
          exact ⟨f1, peq_cons.mpr ⟨by rw [← i5 ρ f1, ← k5 ρ f1]; exact hut ρ f2, e2⟩⟩
        · obtain ⟨j1, j2, j3, -⟩ := sv_all hz hb ha n n0 n1
          rw [← d4 (sv g N β n) j2 j3, ← d4 n n0 n1, c3 _ j2 j3, c3 _ n0 n1, sv_sv hz hb ha n0 n1]
      rcases h with ⟨e, h⟩ | ⟨e, gb, m, h⟩ | ⟨e, gb, ga, m, h⟩ | ⟨e, gb, ga, he, h⟩
      · obtain ⟨d1, d2, d3, d4⟩ := ih β P h hb ha hwP
        exact ⟨d1, d2, fun ρ hρ => ⟨(d3 ρ hρ).1, peq_cons.mpr ⟨by rw [← i5 ρ (d3 ρ hρ).1, ← k5 ρ (d3 ρ hρ).1, e], (d3 ρ hρ).2⟩⟩, d4⟩
      · exact bnd _ _ k1 i1 gb k2 k3 i2 i3 e m h (fun ρ => Eq.symm)
      · exact bnd _ _ i1 k1 ga i2 i3 k2 k3 (fun w => e w.symm) m h (fun ρ w => w)
      · obtain ⟨d1, d2, d3, d4⟩ := ih β _ h hb ha (inN_pud hz i2 i3 k2 k3 he hwP)
        refine ⟨d1, d2, fun ρ hρ => ?_, d4⟩
        obtain ⟨e1, e2⟩ := d3 ρ hρ
        obtain ⟨f1, f2⟩ := peq_pud.mp e2
        exact ⟨e1, peq_cons.mpr ⟨by rw [← i5 ρ e1, ← k5 ρ e1]; exact (con_dec hz e1 i2 i3 k2 k3 ga he).mpr f1, f2⟩⟩
end ZMo
