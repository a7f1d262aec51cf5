/-! The reference: takes anew by a call row, copies, feeding. -/
section M3
variable {h : ax_H} {M : Nat} {f : Nat → Int32} {a : Nat → Nat → Int32} {w : Nat → Nat → Int64}
def mx_cp (x y : Nat → Int32) (p q n : Nat) : Nat → Int32 := fun j => if q ≤ j ∧ j < q + n then x (p + (j - q)) else y j
theorem mx_cp_step {x y : Nat → Int32} {p q i : Nat} : upd (mx_cp x y p q i) (q + i) (x (p + i)) = mx_cp x y p q (i + 1) := by
  funext j
  unfold upd mx_cp
  by_cases e : j = q + i
  · subst e
    simp
  · have : (q ≤ j ∧ j < q + i) ↔ (q ≤ j ∧ j < q + (i + 1)) := by omega
    simp [e, this]
theorem mx_u_eq {α : Type} {b : Nat → Nat → α} {k : Nat} {x : Nat → α} : mx_u b k x k = x := by simp [mx_u]
theorem mx_u_ne {α : Type} {b : Nat → Nat → α} {k j : Nat} {x : Nat → α} (e : ¬ j = k) : mx_u b k x j = b j := by simp [mx_u, e]
theorem mx_u_u {α : Type} {b : Nat → Nat → α} {k : Nat} {x y : Nat → α} : mx_u (mx_u b k x) k y = mx_u b k y := by
  funext j
  by_cases e : j = k <;> simp [mx_u, e]
theorem mx_u_id {α : Type} {b : Nat → Nat → α} {k : Nat} : mx_u b k (b k) = b := by
  funext j
  by_cases e : j = k <;> simp [mx_u, e]
theorem mx_cp_0 {x y : Nat → Int32} {p q : Nat} : mx_cp x y p q 0 = y := by
  funext j
  unfold mx_cp
  rw [if_neg (by omega)]
theorem c_copy_loop {k1 k2 r1 r2 n1 n2 p q n : Nat} (h1 : mx_T[r1]? = some (k1, 0, n1)) (h2 : mx_T[r2]? = some (k2, 0, n2)) (hk : ¬ k1 = k2) (hp : p + n ≤ n1) (hq : q + n ≤ n2) (b1 : n1 < 2 ^ 31) (b2 : n2 < 2 ^ 31) :
    ∀ m i, i + m = n → ax_R 0 0 c_Model_copy none 3 [some (.ref (M + 1 + r1)), some (.int (nI p)), some (.int (nI n)), some (.ref (M + 1 + r2)), some (.int (nI q)), some (.int (nI i))] [] (mx_H h M f (mx_u a k2 (mx_cp (a k1) (a k2) p q i)) w) none (mx_H h M f (mx_u a k2 (mx_cp (a k1) (a k2) p q n)) w) := by
  intro m
  induction m with
  | zero =>
    intro i hi
    have : i = n := by omega
    subst this
    refine r_s (e := (3, .iload 5, 2, 0, 0, 0)) (pc' := 5) rfl rfl rfl ?_
    refine r_s (e := (5, .iload_n 2, 1, 0, 0, 0)) (pc' := 6) rfl rfl rfl ?_
    refine r_icmp (t := 28) (f := 9) rfl rfl rfl rfl (fun hc => ?_) (fun hc => ?_)
    -- Model_copy: br 28 9
    · exact r_ret (e := (28, .return_, 1, 0, 0, 0)) rfl rfl rfl
      -- Model_copy: ret 28
    · exact absurd (Int32.le_refl _) hc
  | succ m ih =>
    intro i hi
    refine r_s (e := (3, .iload 5, 2, 0, 0, 0)) (pc' := 5) rfl rfl rfl ?_
    refine r_s (e := (5, .iload_n 2, 1, 0, 0, 0)) (pc' := 6) rfl rfl rfl ?_
    refine r_icmp (t := 28) (f := 9) rfl rfl rfl rfl (fun hc => ?_) (fun hc => ?_)
    -- Model_copy: br 28 9
    · exact absurd hc (nI_ge (by omega) (by omega))
    · have e1 : nI q + nI i = nI (q + i) := nI_add q i
      have e2 : nI p + nI i = nI (p + i) := nI_add p i
      refine r_s (e := (9, .aload_n 3, 1, 0, 0, 0)) (pc' := 10) rfl rfl rfl ?_
      refine r_s (e := (10, .iload 4, 2, 0, 0, 0)) (pc' := 12) rfl rfl rfl ?_
      refine r_s (e := (12, .iload 5, 2, 0, 0, 0)) (pc' := 14) rfl rfl rfl ?_
      refine r_s (e := (14, .iadd, 1, 0, 0, 0)) (pc' := 15) rfl rfl rfl ?_
      refine r_s (e := (15, .aload_n 0, 1, 0, 0, 0)) (pc' := 16) rfl rfl rfl ?_
      refine r_s (e := (16, .iload_n 1, 1, 0, 0, 0)) (pc' := 17) rfl rfl rfl ?_
      refine r_s (e := (17, .iload 5, 2, 0, 0, 0)) (pc' := 19) rfl rfl rfl ?_
      refine r_s (e := (19, .iadd, 1, 0, 0, 0)) (pc' := 20) rfl rfl rfl ?_
      rw [e1, e2]
      refine r_iald (pc' := 21) rfl (mx_a h1 (by decide)) (ix_nI (by omega) (by omega)) rfl rfl ?_
      refine r_iast (pc' := 22) rfl (mx_a h2 (by decide)) (ix_nI (by omega) (by omega)) (by omega) rfl (mx_sta h2 (by decide)) ?_
      refine r_s (e := (22, .iinc 5 1, 3, 0, 0, 0)) (pc' := 25) rfl rfl rfl ?_
      refine r_s (e := (25, .goto (-22), 3, 0, 0, 0)) (pc' := 3) rfl rfl rfl ?_
      rw [nI_clamp (by omega), nI_clamp (by omega), mx_u_u, mx_u_eq, mx_u_ne hk, mx_cp_step]
      have hh := ih (i + 1) (by omega)
      rw [nI_succ] at hh
      exact hh
theorem c_copy {k1 k2 r1 r2 n1 n2 p q n : Nat} (h1 : mx_T[r1]? = some (k1, 0, n1)) (h2 : mx_T[r2]? = some (k2, 0, n2)) (hk : ¬ k1 = k2) (hp : p + n ≤ n1) (hq : q + n ≤ n2) (b1 : n1 < 2 ^ 31) (b2 : n2 < 2 ^ 31) :
    ax_R 0 0 c_Model_copy none 0 (ax_ent 6 [.ref (M + 1 + r1), .int (nI p), .int (nI n), .ref (M + 1 + r2), .int (nI q)]) [] (mx_H h M f a w) none (mx_H h M f (mx_u a k2 (mx_cp (a k1) (a k2) p q n)) w) := by
  refine r_s (e := (0, .iconst 0, 1, 0, 0, 0)) (pc' := 1) rfl rfl rfl ?_
  refine r_s (e := (1, .istore 5, 2, 0, 0, 0)) (pc' := 3) rfl rfl rfl ?_
  -- Model_copy: stop 3
  have := c_copy_loop (h := h) (M := M) (f := f) (a := a) (w := w) h1 h2 hk hp hq b1 b2 n 0 (by omega)
  rw [mx_cp_0, mx_u_id] at this
  exact this
end M3
