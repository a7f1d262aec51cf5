/-! How many steps: values in their order. -/
/-- how often parts are made one there, columns of it, things of it, places of it -/
abbrev zW : Type := Nat × Nat × Nat × Nat
def wW : List zW → Nat
  | [] => 0
  | a :: R => wW R + a.2.2.2
def wAm : List zW → Nat
  | [] => 0
  | a :: R => wAm R + a.1 * a.2.1
def wSm : List zW → Nat
  | [] => 0
  | a :: R => wSm R + (if a.1 = 0 then 0 else a.2.1 * a.2.2.1)
def wG : List zW → Nat
  | [] => 0
  | a :: R => wG R + (if a.1 = 0 then 0 else a.2.1)
def wO : List zW → Prop
  | [] => True
  | a :: R => wO R ∧ a.2.1 ≤ 3 ∧ a.2.2.1 ≤ a.2.2.2 ∧ (a.1 = 0 ∨ (2 ≤ a.2.2.1 ∧ 1741 * a.1 ≤ lam (wW R + a.2.2.2 + a.2.2.1)))
def eB (n r a : Nat) : Nat := if r = 0 then 0 else (r - 1) * lam (n + 2) + lam (n + 2 + a)
theorem dB_e (n q u a r : Nat) : dB n q u a r = q * lam (n + 2 * u) + eB n r a := rfl
theorem eB_1 (n r a : Nat) : eB n (r + 1) a = r * lam (n + 2) + lam (n + 2 + a) := rfl
theorem eB_a (n r a b : Nat) : eB n r a + lam (n + 2 + b) ≤ eB n (r + 1) (a + b) := by
  rw [eB_1]
  cases r with
  | zero =>
    have := lam_m (n := n + 2 + b) (m := n + 2 + (a + b)) (by omega)
    show 0 + lam (n + 2 + b) ≤ 0 * lam (n + 2) + lam (n + 2 + (a + b))
    omega
  | succ r =>
    rw [eB_1, Nat.add_mul]
    have := lam_s (n := n + 2) (b := b) a
    rw [show n + 2 + a + b = n + 2 + (a + b) by omega] at this
    omega
theorem eB_h (n r a b : Nat) : ∀ h, eB n r a + h * lam (n + 2 + b) ≤ eB n (r + h) (a + h * b) := by
  intro h
  induction h with
  | zero => rw [Nat.zero_mul, Nat.zero_mul]; exact Nat.le_refl _
  | succ h ih =>
    rw [Nat.add_mul, Nat.add_mul, Nat.one_mul, Nat.one_mul, ← Nat.add_assoc, ← Nat.add_assoc]
    rw [← Nat.add_assoc a]
    exact Nat.le_trans (Nat.add_le_add_right ih _) (eB_a n (r + h) (a + h * b) b)
theorem eB_m {n n' r a : Nat} (h : n ≤ n') : eB n r a ≤ eB n' r a := by
  cases r with
  | zero => exact Nat.le_refl _
  | succ r =>
    rw [eB_1, eB_1]
    exact Nat.add_le_add (Nat.mul_le_mul_left _ (lam_m (by omega))) (lam_m (by omega))
theorem dB_m {n n' q u a r : Nat} (h : n ≤ n') : dB n q u a r ≤ dB n' q u a r := by
  rw [dB_e, dB_e]
  exact Nat.add_le_add (Nat.mul_le_mul_left _ (lam_m (by omega))) (eB_m h)
theorem w_oth {n : Nat} : ∀ {R : List zW}, wO R → wW R ≤ n → ∃ a, wSm R = a + 2 * wG R ∧ (wG R = 0 → a = 0) ∧ 1741 * wAm R ≤ eB n (wG R) a := by
  intro R
  induction R with
  | nil => intro _ _; exact ⟨0, rfl, fun _ => rfl, Nat.zero_le _⟩
  | cons p R ih =>
    obtain ⟨M, h, c, t⟩ := p
    intro hO hn
    obtain ⟨h1, h2, h3, h4⟩ := hO
    have hn' : wW R + t ≤ n := hn
    obtain ⟨a, i1, i2, i3⟩ := ih h1 (by omega)
    dsimp only at h2 h3 h4
    by_cases q : M = 0
    · refine ⟨a, ?_, ?_, ?_⟩
      · show wSm R + (if M = 0 then 0 else _) = a + 2 * (wG R + (if M = 0 then 0 else _))
        rw [if_pos q, if_pos q]; omega
      · show wG R + (if M = 0 then 0 else _) = 0 → _
        rw [if_pos q]; intro w; exact i2 (by omega)
      · show 1741 * (wAm R + M * h) ≤ eB n (wG R + (if M = 0 then 0 else _)) a
        rw [if_pos q, q, Nat.zero_mul]; exact i3
    · obtain ⟨c2, hM⟩ := h4.resolve_left q
      by_cases q2 : h = 0
      · refine ⟨a, ?_, ?_, ?_⟩
        · show wSm R + (if M = 0 then 0 else h * c) = a + 2 * (wG R + (if M = 0 then 0 else h))
          rw [if_neg q, if_neg q, q2, Nat.zero_mul]; omega
        · show wG R + (if M = 0 then 0 else h) = 0 → _
          rw [if_neg q]; intro w; exact i2 (by omega)
        · show 1741 * (wAm R + M * h) ≤ eB n (wG R + (if M = 0 then 0 else h)) a
          rw [if_neg q, q2, Nat.mul_zero]; exact i3
      · refine ⟨a + h * (c - 2), ?_, ?_, ?_⟩
        · show wSm R + (if M = 0 then 0 else h * c) = a + h * (c - 2) + 2 * (wG R + (if M = 0 then 0 else h))
          rw [if_neg q, if_neg q]
          have : h * c = h * (c - 2) + h * 2 := by rw [← Nat.mul_add]; exact congrArg _ (by omega)
          omega
        · show wG R + (if M = 0 then 0 else h) = 0 → _
          rw [if_neg q]; intro w; exact absurd w (by omega)
        · show 1741 * (wAm R + M * h) ≤ eB n (wG R + (if M = 0 then 0 else h)) (a + h * (c - 2))
          rw [if_neg q]
          have e1 : 1741 * (M * h) ≤ h * lam (n + 2 + (c - 2)) := by
            rw [← Nat.mul_assoc, Nat.mul_comm _ h]
            exact Nat.mul_le_mul_left _ (Nat.le_trans hM (lam_m (by omega)))
          have e2 := eB_h n (wG R) a (c - 2) h
          omega
theorem w_all : ∀ {R : List zW}, wO R → (wG R = 0 ∧ wAm R = 0 ∧ wSm R = 0) ∨ ∃ n q u a r, q < 3 ∧ n + (u + 2) = wW R ∧ wG R = (q + 1) + r ∧ wSm R = (q + 1) * (u + 2) + a + 2 * r ∧ (r = 0 → a = 0) ∧ 1741 * wAm R ≤ dB n (q + 1) (u + 2) a r := by
  intro R
  induction R with
  | nil => intro _; exact Or.inl ⟨rfl, rfl, rfl⟩
  | cons p R ih =>
    obtain ⟨M, h, c, t⟩ := p
    intro hO
    obtain ⟨h1, h2, h3, h4⟩ := hO
    dsimp only at h2 h3 h4
    have skip : (if M = 0 then 0 else h) = 0 → (if M = 0 then 0 else h * c) = 0 → M * h = 0 → (wG ((M, h, c, t) :: R) = 0 ∧ wAm ((M, h, c, t) :: R) = 0 ∧ wSm ((M, h, c, t) :: R) = 0) ∨ ∃ n q u a r, q < 3 ∧ n + (u + 2) = wW ((M, h, c, t) :: R) ∧ wG ((M, h, c, t) :: R) = (q + 1) + r ∧ wSm ((M, h, c, t) :: R) = (q + 1) * (u + 2) + a + 2 * r ∧ (r = 0 → a = 0) ∧ 1741 * wAm ((M, h, c, t) :: R) ≤ dB n (q + 1) (u + 2) a r := fun e1 e2 e3 => by
      have g1 : wG ((M, h, c, t) :: R) = wG R := by
        show wG R + (if M = 0 then 0 else h) = _
        rw [e1]; rfl
      have g2 : wSm ((M, h, c, t) :: R) = wSm R := by
        show wSm R + (if M = 0 then 0 else h * c) = _
        rw [e2]; rfl
      have g3 : wAm ((M, h, c, t) :: R) = wAm R := by
        show wAm R + M * h = _
        rw [e3]; rfl
      rw [g1, g2, g3]
      rcases ih h1 with w | ⟨n, q, u, a, r, w1, w2, w3, w4, w5, w6⟩
      · exact Or.inl w
      · refine Or.inr ⟨n + t, q, u, a, r, w1, ?_, w3, w4, w5, Nat.le_trans w6 (dB_m (Nat.le_add_right _ _))⟩
        show n + t + (u + 2) = wW R + t
        omega
    by_cases q : M = 0
    · exact skip (if_pos q) (if_pos q) (by rw [q, Nat.zero_mul])
    · by_cases q2 : h = 0
      · exact skip (by rw [if_neg q]; exact q2) (by rw [if_neg q, q2, Nat.zero_mul]) (by rw [q2, Nat.mul_zero])
      · obtain ⟨c2, hM⟩ := h4.resolve_left q
        obtain ⟨a, i1, i2, i3⟩ := w_oth (n := wW R + t - c) h1 (by omega)
        refine Or.inr ⟨wW R + t - c, h - 1, c - 2, a, wG R, by omega, ?_, ?_, ?_, i2, ?_⟩
        · show wW R + t - c + (c - 2 + 2) = wW R + t
          omega
        · show wG R + (if M = 0 then 0 else h) = _
          rw [if_neg q]; omega
        · show wSm R + (if M = 0 then 0 else h * c) = _
          rw [if_neg q, show h - 1 + 1 = h by omega, show c - 2 + 2 = c by omega]; omega
        · show 1741 * (wAm R + M * h) ≤ _
          rw [dB_e, show h - 1 + 1 = h by omega, show wW R + t - c + 2 * (c - 2 + 2) = wW R + t + c by omega]
          have e1 : 1741 * (M * h) ≤ h * lam (wW R + t + c) := by
            rw [← Nat.mul_assoc, Nat.mul_comm _ h]
            exact Nat.mul_le_mul_left _ hM
          omega
theorem w_M {R : List zW} {M c t : Nat} (h : wO R) (hM : M ≤ wAm R) (hc : ¬ M = 0 → 2 ≤ c) (hS : wSm R ≤ t) (h2 : ¬ M = 0 → 2 ≤ wG R → 2 * wG R + 4 ≤ t + c) : M = 0 ∨ (2 ≤ c ∧ 1741 * M ≤ lam (wW R + t + c)) := by
  by_cases q0 : M = 0
  · exact Or.inl q0
  · refine Or.inr ⟨hc q0, ?_⟩
    have hc := hc q0
    have h2 := h2 q0
    rcases w_all h with ⟨-, w, -⟩ | ⟨n, q, u, a, r, w1, w2, w3, w4, w5, w6⟩
    · omega
    · have h6 : 1741 * M ≤ dB n (q + 1) (u + 2) a r := by omega
      cases r with
      | zero =>
        have ea := w5 rfl
        subst ea
        cases q with
        | zero =>
          have e : dB n (0 + 1) (u + 2) 0 0 = lam (n + 2 * (u + 2)) := by
            rw [dB_e]
            show (0 + 1) * lam (n + 2 * (u + 2)) + 0 = _
            omega
          rw [e] at h6
          refine Nat.le_trans h6 (lam_m ?_)
          omega
        | succ q =>
          refine Nat.le_trans h6 (Nat.le_trans (Co_0 (q := q) (by omega) u n n u (Nat.le_refl _) (Nat.le_refl _)) (lam_m ?_))
          have := h2 (by omega)
          have e3 : (q + 1 + 1) * (u + 2) = (q + 2) * (u + 2) := rfl
          omega
      | succ r =>
        have hco := Co_r (q := q) (a := a) (u := u) (n := n) w1 r
        unfold CoP at hco
        refine Nat.le_trans h6 (Nat.le_trans hco (lam_m ?_))
        have := h2 (by omega)
        omega
theorem w_N {R : List zW} {K s t : Nat} (h : wO R) (hK : K ≤ wAm R) (hS : wSm R ≤ t) (hs : 1741 * s ≤ 5 * lam (wW R)) : 1741 * (s + K) ≤ 5 * lam (wW R + t) := by
  rcases w_all h with ⟨-, w, -⟩ | ⟨n, q, u, a, r, w1, w2, w3, w4, w5, w6⟩
  · have := lam_m (n := wW R) (m := wW R + t) (by omega)
    omega
  · rw [← w2] at hs ⊢
    have hm : lam (n + (u + 2) + wSm R) ≤ lam (n + (u + 2) + t) := lam_m (by omega)
    cases r with
    | zero =>
      have ea := w5 rfl
      subst ea
      have := Su_0 (q := q) (n := n) w1 u u (Nat.le_refl _)
      rw [w4, show n + (u + 2) + ((q + 1) * (u + 2) + 0 + 2 * 0) = n + (u + 2) + (q + 1) * (u + 2) by omega] at hm
      omega
    | succ r =>
      have := Su_r (q := q) (a := a) (u := u) (n := n) w1 r
      unfold SuP at this
      rw [w4] at hm
      omega
/-- values of a list: what they need -/
def wC (t c M N : List Int → Nat) (e h : List Int → List Int → Nat) : List (List Int) → Prop
  | [] => True
  | v :: R => wC t c M N e h R ∧ c v ≤ t v ∧ (¬ M v = 0 → 2 ≤ c v) ∧ (((∀ p, p ∈ R → N p = 0) ∧ N v ≤ 1 ∧ M v ≤ 1 ∧ 2 ≤ t v) ∨ (N v ≤ wAm (R.map (fun p => (M p, e p v, c p, t p))) ∧ wSm (R.map (fun p => (M p, e p v, c p, t p))) ≤ t v ∧ M v ≤ wAm (R.map (fun p => (M p, h p v, c p, t p))) ∧ wSm (R.map (fun p => (M p, h p v, c p, t p))) ≤ t v ∧ (¬ M v = 0 → 2 ≤ wG (R.map (fun p => (M p, h p v, c p, t p))) → 2 * wG (R.map (fun p => (M p, h p v, c p, t p))) + 4 ≤ t v + c v)))
def wGd (t c M : List Int → Nat) : List (List Int) → Prop
  | [] => True
  | v :: R => wGd t c M R ∧ c v ≤ t v ∧ (M v = 0 ∨ (2 ≤ c v ∧ 1741 * M v ≤ lam ((R.map t).sum + t v + c v)))
theorem w_W {t c M : List Int → Nat} {f : List Int → Nat} : ∀ {R : List (List Int)}, wW (R.map (fun p => (M p, f p, c p, t p))) = (R.map t).sum := by
  intro R
  induction R with
  | nil => rfl
  | cons v R ih =>
    show wW (R.map _) + t v = (t v :: R.map t).sum
    rw [ih, List.sum_cons, Nat.add_comm]
theorem w_O {t c M : List Int → Nat} {f : List Int → Nat} (hf : ∀ p, f p ≤ 3) : ∀ {R : List (List Int)}, wGd t c M R → wO (R.map (fun p => (M p, f p, c p, t p))) := by
  intro R
  induction R with
  | nil => intro _; trivial
  | cons v R ih =>
    rintro ⟨h1, h2, h3⟩
    refine ⟨ih h1, hf v, h2, ?_⟩
    rw [w_W]
    exact h3
theorem w_end {t c M N : List Int → Nat} {e h : List Int → List Int → Nat} (he : ∀ p v, e p v ≤ 3) (hh : ∀ p v, h p v ≤ 3) : ∀ {R : List (List Int)}, wC t c M N e h R → wGd t c M R ∧ 1741 * (R.map N).sum ≤ 5 * lam (R.map t).sum := by
  intro R
  induction R with
  | nil => intro _; exact ⟨trivial, Nat.zero_le _⟩
  | cons v R ih =>
    rintro ⟨h1, h2, h3, h4⟩
    obtain ⟨i1, i2⟩ := ih h1
    rw [List.map_cons, List.map_cons, List.sum_cons, List.sum_cons, Nat.add_comm (N v), Nat.add_comm (t v)]
    rcases h4 with ⟨a1, a2, a3, a4⟩ | ⟨a1, a2, a3, a4, a5⟩
    · have s0 : (R.map N).sum = 0 := by
        clear h1 i1 i2 ih
        induction R with
        | nil => rfl
        | cons p R ih2 =>
          rw [List.map_cons, List.sum_cons, a1 p List.mem_cons_self, ih2 (fun q hq => a1 q (List.mem_cons_of_mem _ hq))]
      have m2 : lam 2 ≤ lam ((R.map t).sum + t v) := lam_m (by omega)
      have e2 : lam 2 = 1320 := rfl
      refine ⟨⟨i1, h2, ?_⟩, by omega⟩
      by_cases q : M v = 0
      · exact Or.inl q
      · have c2 := h3 q
        have m4 : lam 4 ≤ lam ((R.map t).sum + t v + c v) := lam_m (by omega)
        have e4 : lam 4 = 1741 := rfl
        exact Or.inr ⟨c2, by omega⟩
    · have o1 := w_O (f := fun p => e p v) (fun p => he p v) i1
      have o2 := w_O (f := fun p => h p v) (fun p => hh p v) i1
      have m := w_M o2 a3 h3 a4 a5
      have n := w_N o1 a1 a2 (by rw [w_W]; exact i2)
      rw [w_W] at m n
      exact ⟨⟨i1, h2, m⟩, n⟩
theorem lam_112 : lam 112 = 5536481280 := by decide +kernel
theorem w_most {t c M N : List Int → Nat} {e h : List Int → List Int → Nat} {R : List (List Int)} (he : ∀ p v, e p v ≤ 3) (hh : ∀ p v, h p v ≤ 3) (hR : wC t c M N e h R) (ht : (R.map t).sum ≤ 112) : (R.map N).sum ≤ 16777216 := by
  have h1 := (w_end he hh hR).2
  have h2 : lam (R.map t).sum ≤ lam 112 := lam_m ht
  rw [lam_112] at h2
  omega
