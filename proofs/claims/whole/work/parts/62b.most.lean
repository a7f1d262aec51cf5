/-! How many steps: numbers that double with each fifth. -/
def lam : Nat → Nat
  | 0 => 1000
  | 1 => 1149
  | 2 => 1320
  | 3 => 1516
  | 4 => 1741
  | n + 5 => 2 * lam n
theorem lam_5 (n : Nat) : lam (n + 5) = 2 * lam n := rfl
theorem lam_i : ∀ n, lam n ≤ lam (n + 1)
  | 0 => by decide
  | 1 => by decide
  | 2 => by decide
  | 3 => by decide
  | 4 => by decide
  | n + 5 => by
    have := lam_i n
    show 2 * lam n ≤ 2 * lam (n + 1)
    omega
theorem lam_c : ∀ n, 2 * lam (n + 1) ≤ lam n + lam (n + 2)
  | 0 => by decide
  | 1 => by decide
  | 2 => by decide
  | 3 => by decide
  | 4 => by decide
  | n + 5 => by
    have := lam_c n
    show 2 * (2 * lam (n + 1)) ≤ 2 * lam n + 2 * lam (n + 2)
    omega
theorem lam_9 : ∀ n, lam (n + 9) + lam n ≤ lam (n + 11)
  | 0 => by decide
  | 1 => by decide
  | 2 => by decide
  | 3 => by decide
  | 4 => by decide
  | n + 5 => by
    have := lam_9 n
    show 2 * lam (n + 9) + 2 * lam n ≤ 2 * lam (n + 11)
    omega
theorem lam_6 : ∀ n, 6 * lam n ≤ 5 * lam (n + 2)
  | 0 => by decide
  | 1 => by decide
  | 2 => by decide
  | 3 => by decide
  | 4 => by decide
  | n + 5 => by
    have := lam_6 n
    show 6 * (2 * lam n) ≤ 5 * (2 * lam (n + 2))
    omega
theorem lam_m {n m : Nat} (h : n ≤ m) : lam n ≤ lam m := by
  obtain ⟨d, rfl⟩ := Nat.le.dest h
  clear h
  induction d with
  | zero => exact Nat.le_refl _
  | succ d ih => exact Nat.le_trans ih (lam_i _)
theorem lam_d {n : Nat} : ∀ d, lam (n + 1) + lam (n + d) ≤ lam n + lam (n + d + 1) := by
  intro d
  induction d with
  | zero => show lam (n + 1) + lam n ≤ lam n + lam (n + 1); omega
  | succ d ih =>
    have := lam_c (n + d)
    show lam (n + 1) + lam (n + d + 1) ≤ lam n + lam (n + d + 2)
    omega
theorem lam_s {n b : Nat} : ∀ a, lam (n + a) + lam (n + b) ≤ lam n + lam (n + a + b) := by
  intro a
  induction a with
  | zero => exact Nat.le_refl _
  | succ a ih =>
    have := lam_d (n := n + a) b
    rw [show n + (a + 1) = n + a + 1 by omega, show n + a + 1 + b = n + a + b + 1 by omega]
    omega
/-- what some columns bring: q of a last one, r others -/
def dB (n q u a r : Nat) : Nat := q * lam (n + 2 * u) + (if r = 0 then 0 else (r - 1) * lam (n + 2) + lam (n + 2 + a))
theorem dB_1 (n q u a r : Nat) : dB n q u a (r + 1) = q * lam (n + 2 * u) + (r * lam (n + 2) + lam (n + 2 + a)) := rfl
theorem dB_5 (n q u a r : Nat) : dB (n + 5) q u a r = 2 * dB n q u a r := by
  unfold dB
  rw [show n + 5 + 2 * u = n + 2 * u + 5 by omega, show n + 5 + 2 = n + 2 + 5 by omega, show n + 2 + 5 + a = n + 2 + a + 5 by omega, lam_5, lam_5, lam_5, Nat.mul_left_comm, Nat.mul_add]
  refine congrArg _ ?_
  split
  · rfl
  · rw [Nat.mul_left_comm, Nat.mul_add]
theorem core_b : ∀ n, n < 5 → ∀ q, q < 3 → ∀ u, u < 7 → ∀ a, a < 7 → ∀ r, r < 2 → dB n (q + 1) (u + 2) a (r + 1) ≤ lam (n + (u + 2) + 2 * (r + 1) + max ((q + 1) * (u + 2) + a + 2) (2 * (q + 1) + 4)) := by decide +kernel
theorem sum_b : ∀ n, n < 5 → ∀ q, q < 3 → ∀ u, u < 7 → ∀ a, a < 7 → dB n (q + 1) (u + 2) a 1 + 5 * lam (n + (u + 2)) ≤ 5 * lam (n + (u + 2) + ((q + 1) * (u + 2) + a + 2)) := by decide +kernel
theorem core_0 : ∀ n, n < 5 → ∀ q, q < 2 → ∀ u, u < 7 → dB n (q + 2) (u + 2) 0 0 ≤ lam (n + (u + 2) + max ((q + 2) * (u + 2) + 2) (2 * (q + 2) + 4)) := by decide +kernel
theorem sum_0 : ∀ n, n < 5 → ∀ q, q < 3 → ∀ u, u < 7 → dB n (q + 1) (u + 2) 0 0 + 5 * lam (n + (u + 2)) ≤ 5 * lam (n + (u + 2) + (q + 1) * (u + 2)) := by decide +kernel
def CoP (n q u a r : Nat) : Prop := dB n (q + 1) (u + 2) a (r + 1) ≤ lam (n + (u + 2) + 2 * (r + 1) + max ((q + 1) * (u + 2) + a + 2) (2 * (q + 1) + 4))
def SuP (n q u a r : Nat) : Prop := dB n (q + 1) (u + 2) a (r + 1) + 5 * lam (n + (u + 2)) ≤ 5 * lam (n + (u + 2) + ((q + 1) * (u + 2) + a + 2 * (r + 1)))
theorem lam_x {X Y : Nat} (h : X + 5 ≤ Y) : 2 * lam X ≤ lam Y := lam_m (n := X + 5) h
theorem lam_y {X Y : Nat} (h : X + 10 ≤ Y) : 4 * lam X ≤ lam Y := by
  have := lam_x (X := X) (Y := X + 5) (Nat.le_refl _)
  have := lam_x (X := X + 5) (Y := Y) (by omega)
  omega
theorem dB_a {n q u a r : Nat} : dB n q u (a + 5) r ≤ 2 * dB n q u a r := by
  unfold dB
  by_cases h : r = 0
  · rw [if_pos h, if_pos h]
    omega
  · rw [if_neg h, if_neg h, show n + 2 + (a + 5) = n + 2 + a + 5 by omega, lam_5]
    omega
theorem dB_u {n q u a r : Nat} : dB n q (u + 5) a r ≤ 4 * dB n q u a r := by
  unfold dB
  have e : q * lam (n + 2 * (u + 5)) = 4 * (q * lam (n + 2 * u)) := by
    rw [show n + 2 * (u + 5) = n + 2 * u + 5 + 5 by omega, lam_5, lam_5, ← Nat.mul_assoc 2 2, Nat.mul_left_comm]
  rw [e]
  omega
theorem Co_n {q u a r : Nat} (hq : q < 3) (hu : u < 7) (ha : a < 7) (hr : r < 2) : ∀ (m n : Nat), n ≤ m → CoP n q u a r := by
  intro m
  induction m with
  | zero => intro n hn; exact core_b n (by omega) q hq u hu a ha r hr
  | succ m ih =>
    intro n hn
    by_cases h5 : n < 5
    · exact core_b n h5 q hq u hu a ha r hr
    · have := ih (n - 5) (by omega)
      unfold CoP at this ⊢
      have e : n = (n - 5) + 5 := by omega
      generalize n - 5 = k at this e
      subst e
      rw [dB_5]
      refine Nat.le_trans (Nat.mul_le_mul_left 2 this) (lam_x ?_)
      omega
theorem Su_n {q u a : Nat} (hq : q < 3) (hu : u < 7) (ha : a < 7) : ∀ (m n : Nat), n ≤ m → SuP n q u a 0 := by
  intro m
  induction m with
  | zero => intro n hn; exact sum_b n (by omega) q hq u hu a ha
  | succ m ih =>
    intro n hn
    by_cases h5 : n < 5
    · exact sum_b n h5 q hq u hu a ha
    · have := ih (n - 5) (by omega)
      unfold SuP at this ⊢
      have e : n = (n - 5) + 5 := by omega
      generalize n - 5 = k at this e
      subst e
      rw [dB_5, show k + 5 + (u + 2) = k + (u + 2) + 5 by omega, show k + (u + 2) + 5 + ((q + 1) * (u + 2) + a + 2 * (0 + 1)) = k + (u + 2) + ((q + 1) * (u + 2) + a + 2 * (0 + 1)) + 5 by omega, lam_5, lam_5]
      omega
theorem Co_a {q u r n : Nat} (hq : q < 3) (hu : u < 7) (hr : r < 2) : ∀ (m a : Nat), a ≤ m → CoP n q u a r := by
  intro m
  induction m with
  | zero => intro a ha; exact Co_n hq hu (by omega) hr n n (Nat.le_refl _)
  | succ m ih =>
    intro a ha
    by_cases h5 : a < 7
    · exact Co_n hq hu h5 hr n n (Nat.le_refl _)
    · have := ih (a - 5) (by omega)
      unfold CoP at this ⊢
      have e : a = (a - 5) + 5 := by omega
      have e2 : 2 ≤ a - 5 := by omega
      generalize a - 5 = k at this e e2
      subst e
      refine Nat.le_trans dB_a (Nat.le_trans (Nat.mul_le_mul_left 2 this) (lam_x ?_))
      have h6 : 2 * (q + 1) ≤ (q + 1) * (u + 2) := by
        rw [Nat.mul_comm 2]
        exact Nat.mul_le_mul_left _ (by omega)
      omega
theorem Su_a {q u n : Nat} (hq : q < 3) (hu : u < 7) : ∀ (m a : Nat), a ≤ m → SuP n q u a 0 := by
  intro m
  induction m with
  | zero => intro a ha; exact Su_n hq hu (by omega) n n (Nat.le_refl _)
  | succ m ih =>
    intro a ha
    by_cases h5 : a < 7
    · exact Su_n hq hu h5 n n (Nat.le_refl _)
    · have := ih (a - 5) (by omega)
      unfold SuP at this ⊢
      have e : a = (a - 5) + 5 := by omega
      generalize a - 5 = k at this e
      subst e
      have h1 := dB_a (n := n) (q := q + 1) (u := u + 2) (a := k) (r := 0 + 1)
      rw [show n + (u + 2) + ((q + 1) * (u + 2) + (k + 5) + 2 * (0 + 1)) = n + (u + 2) + ((q + 1) * (u + 2) + k + 2 * (0 + 1)) + 5 by omega, lam_5]
      omega
theorem Co_u {q a r n : Nat} (hq : q < 3) (hr : r < 2) : ∀ (m u : Nat), u ≤ m → CoP n q u a r := by
  intro m
  induction m with
  | zero => intro u hu; exact Co_a hq (by omega) hr a a (Nat.le_refl _)
  | succ m ih =>
    intro u hu
    by_cases h5 : u < 7
    · exact Co_a hq h5 hr a a (Nat.le_refl _)
    · have := ih (u - 5) (by omega)
      unfold CoP at this ⊢
      have e : u = (u - 5) + 5 := by omega
      have e2 : 2 ≤ u - 5 := by omega
      generalize u - 5 = k at this e e2
      subst e
      rw [show k + 5 + 2 = (k + 2) + 5 by omega]
      refine Nat.le_trans dB_u (Nat.le_trans (Nat.mul_le_mul_left 4 this) (lam_y ?_))
      have h6 : (q + 1) * ((k + 2) + 5) = (q + 1) * (k + 2) + (q + 1) * 5 := Nat.mul_add _ _ _
      have h7 : (q + 1) * 4 ≤ (q + 1) * (k + 2) := Nat.mul_le_mul_left _ (by omega)
      omega
theorem Su_u {q a n : Nat} (hq : q < 3) : ∀ (m u : Nat), u ≤ m → SuP n q u a 0 := by
  intro m
  induction m with
  | zero => intro u hu; exact Su_a hq (by omega) a a (Nat.le_refl _)
  | succ m ih =>
    intro u hu
    by_cases h5 : u < 7
    · exact Su_a hq h5 a a (Nat.le_refl _)
    · have := ih (u - 5) (by omega)
      unfold SuP at this ⊢
      have e : u = (u - 5) + 5 := by omega
      generalize u - 5 = k at this e
      subst e
      rw [show k + 5 + 2 = (k + 2) + 5 by omega]
      have h1 := dB_u (n := n) (q := q + 1) (u := k + 2) (a := a) (r := 0 + 1)
      have h6 : (q + 1) * ((k + 2) + 5) = (q + 1) * (k + 2) + (q + 1) * 5 := Nat.mul_add _ _ _
      have h2 : lam (n + ((k + 2) + 5)) = 2 * lam (n + (k + 2)) := by rw [show n + ((k + 2) + 5) = n + (k + 2) + 5 by omega, lam_5]
      have h3 := lam_y (X := n + (k + 2) + ((q + 1) * (k + 2) + a + 2 * (0 + 1))) (Y := n + ((k + 2) + 5) + ((q + 1) * ((k + 2) + 5) + a + 2 * (0 + 1))) (by omega)
      omega
theorem dB_r {n q u a r : Nat} : dB n q u a (r + 2) = dB n q u a (r + 1) + lam (n + 2) := by
  rw [dB_1, dB_1, Nat.add_mul]
  omega
theorem Co_r {q a u n : Nat} (hq : q < 3) : ∀ r, CoP n q u a r := by
  intro r
  induction r with
  | zero => exact Co_u hq (by decide) u u (Nat.le_refl _)
  | succ r ih =>
    by_cases h : r = 0
    · rw [h]
      exact Co_u hq (by decide) u u (Nat.le_refl _)
    · unfold CoP at ih ⊢
      rw [show r + 1 + 1 = r + 2 by omega, dB_r]
      have h1 := lam_9 (n + (u + 2) + 2 * (r + 1) + max ((q + 1) * (u + 2) + a + 2) (2 * (q + 1) + 4) - 9)
      have h2 : lam (n + 2) ≤ lam (n + (u + 2) + 2 * (r + 1) + max ((q + 1) * (u + 2) + a + 2) (2 * (q + 1) + 4) - 9) := lam_m (by omega)
      rw [show n + (u + 2) + 2 * (r + 1) + max ((q + 1) * (u + 2) + a + 2) (2 * (q + 1) + 4) - 9 + 9 = n + (u + 2) + 2 * (r + 1) + max ((q + 1) * (u + 2) + a + 2) (2 * (q + 1) + 4) by omega, show n + (u + 2) + 2 * (r + 1) + max ((q + 1) * (u + 2) + a + 2) (2 * (q + 1) + 4) - 9 + 11 = n + (u + 2) + 2 * (r + 2) + max ((q + 1) * (u + 2) + a + 2) (2 * (q + 1) + 4) by omega] at h1
      omega
theorem Su_r {q a u n : Nat} (hq : q < 3) : ∀ r, SuP n q u a r := by
  intro r
  induction r with
  | zero => exact Su_u hq u u (Nat.le_refl _)
  | succ r ih =>
    unfold SuP at ih ⊢
    rw [show r + 1 + 1 = r + 2 by omega, dB_r]
    have h1 := lam_6 (n + (u + 2) + ((q + 1) * (u + 2) + a + 2 * (r + 1)))
    have h2 : lam (n + 2) ≤ lam (n + (u + 2) + ((q + 1) * (u + 2) + a + 2 * (r + 1))) := lam_m (by omega)
    rw [show n + (u + 2) + ((q + 1) * (u + 2) + a + 2 * (r + 1)) + 2 = n + (u + 2) + ((q + 1) * (u + 2) + a + 2 * (r + 2)) by omega] at h1
    omega
theorem Co_0 {q : Nat} (hq : q < 2) : ∀ (M m n u : Nat), n ≤ m → u ≤ M → dB n (q + 2) (u + 2) 0 0 ≤ lam (n + (u + 2) + max ((q + 2) * (u + 2) + 2) (2 * (q + 2) + 4)) := by
  intro M
  induction M with
  | zero =>
    intro m
    induction m with
    | zero => intro n u hn hu; exact core_0 n (by omega) q hq u (by omega)
    | succ m ih =>
      intro n u hn hu
      by_cases h5 : n < 5
      · exact core_0 n h5 q hq u (by omega)
      · have := ih (n - 5) u (by omega) hu
        have e : n = (n - 5) + 5 := by omega
        generalize n - 5 = k at this e
        subst e
        rw [dB_5]
        refine Nat.le_trans (Nat.mul_le_mul_left 2 this) (lam_x ?_)
        omega
  | succ M ihM =>
    intro m
    induction m with
    | zero =>
      intro n u hn hu
      by_cases h7 : u < 7
      · exact core_0 n (by omega) q hq u h7
      · have := ihM n n (u - 5) (Nat.le_refl _) (by omega)
        have e : u = (u - 5) + 5 := by omega
        have e2 : 2 ≤ u - 5 := by omega
        generalize u - 5 = k at this e e2
        subst e
        rw [show k + 5 + 2 = (k + 2) + 5 by omega]
        refine Nat.le_trans dB_u (Nat.le_trans (Nat.mul_le_mul_left 4 this) (lam_y ?_))
        have h6 : (q + 2) * ((k + 2) + 5) = (q + 2) * (k + 2) + (q + 2) * 5 := Nat.mul_add _ _ _
        have h7 : (q + 2) * 4 ≤ (q + 2) * (k + 2) := Nat.mul_le_mul_left _ (by omega)
        omega
    | succ m ih =>
      intro n u hn hu
      by_cases h5 : n < 5
      · by_cases h7 : u < 7
        · exact core_0 n h5 q hq u h7
        · have := ihM n n (u - 5) (Nat.le_refl _) (by omega)
          have e : u = (u - 5) + 5 := by omega
          have e2 : 2 ≤ u - 5 := by omega
          generalize u - 5 = k at this e e2
          subst e
          rw [show k + 5 + 2 = (k + 2) + 5 by omega]
          refine Nat.le_trans dB_u (Nat.le_trans (Nat.mul_le_mul_left 4 this) (lam_y ?_))
          have h6 : (q + 2) * ((k + 2) + 5) = (q + 2) * (k + 2) + (q + 2) * 5 := Nat.mul_add _ _ _
          have h7 : (q + 2) * 4 ≤ (q + 2) * (k + 2) := Nat.mul_le_mul_left _ (by omega)
          omega
      · have := ih (n - 5) u (by omega) hu
        have e : n = (n - 5) + 5 := by omega
        generalize n - 5 = k at this e
        subst e
        rw [dB_5]
        refine Nat.le_trans (Nat.mul_le_mul_left 2 this) (lam_x ?_)
        omega
theorem Su_0n {q u : Nat} (hq : q < 3) (hu : u < 7) : ∀ (m n : Nat), n ≤ m → dB n (q + 1) (u + 2) 0 0 + 5 * lam (n + (u + 2)) ≤ 5 * lam (n + (u + 2) + (q + 1) * (u + 2)) := by
  intro m
  induction m with
  | zero => intro n hn; exact sum_0 n (by omega) q hq u hu
  | succ m ih =>
    intro n hn
    by_cases h5 : n < 5
    · exact sum_0 n h5 q hq u hu
    · have := ih (n - 5) (by omega)
      have e : n = (n - 5) + 5 := by omega
      generalize n - 5 = k at this e
      subst e
      rw [dB_5, show k + 5 + (u + 2) = k + (u + 2) + 5 by omega, show k + (u + 2) + 5 + (q + 1) * (u + 2) = k + (u + 2) + (q + 1) * (u + 2) + 5 by omega, lam_5, lam_5]
      omega
theorem Su_0 {q n : Nat} (hq : q < 3) : ∀ (m u : Nat), u ≤ m → dB n (q + 1) (u + 2) 0 0 + 5 * lam (n + (u + 2)) ≤ 5 * lam (n + (u + 2) + (q + 1) * (u + 2)) := by
  intro m
  induction m with
  | zero => intro u hu; exact Su_0n hq (by omega) n n (Nat.le_refl _)
  | succ m ih =>
    intro u hu
    by_cases h5 : u < 7
    · exact Su_0n hq h5 n n (Nat.le_refl _)
    · have := ih (u - 5) (by omega)
      have e : u = (u - 5) + 5 := by omega
      generalize u - 5 = k at this e
      subst e
      rw [show k + 5 + 2 = (k + 2) + 5 by omega]
      have h1 := dB_u (n := n) (q := q + 1) (u := k + 2) (a := 0) (r := 0)
      have h6 : (q + 1) * ((k + 2) + 5) = (q + 1) * (k + 2) + (q + 1) * 5 := Nat.mul_add _ _ _
      have h2 : lam (n + ((k + 2) + 5)) = 2 * lam (n + (k + 2)) := by rw [show n + ((k + 2) + 5) = n + (k + 2) + 5 by omega, lam_5]
      have h3 := lam_y (X := n + (k + 2) + (q + 1) * (k + 2)) (Y := n + ((k + 2) + 5) + (q + 1) * ((k + 2) + 5)) (by omega)
      omega
