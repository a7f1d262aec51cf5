/-! The reference: images of the givens' rows; depth of a scope; numbers written. -/
section MA
variable {h : ax_H} {M : Nat} {f : Nat → Int32} {a : Nat → Nat → Int32} {w : Nat → Nat → Int64}
theorem c_isPut {x n y m : Nat} {b : Bool} {G' : Nat → Int32} (hm : y + m ≤ 1440) (hx : x ≤ 1440) (hp : mx_pt (a 11) (a 11) 1440 m y x (mx_fill (a 27) 26 (-1)) = some (b, G')) : ax_R 3 90 c_Model_isPut (some .boolean) 0 (ax_ent 5 [.ref M, .int (nI x), .int (nI n), .int (nI y), .int (nI m)]) [] (mx_H h M f a w) (some (.int (if b = true then 1 else 0))) (mx_H h M f (mx_u a 27 G') w) := by
  refine r_s (e := (0, .aload_n 0, 1, 0, 0, 0)) (pc' := 1) rfl rfl rfl ?_
  refine r_s (e := (1, .aload_n 0, 1, 0, 0, 0)) (pc' := 2) rfl rfl rfl ?_
  refine r_get (pc' := 5) rfl mx_o (mx_Fa (k := 11) (r := 6) rfl) rfl ?_
  refine r_s (e := (5, .iload_n 1, 1, 0, 0, 0)) (pc' := 6) rfl rfl rfl ?_
  refine r_s (e := (6, .aload_n 0, 1, 0, 0, 0)) (pc' := 7) rfl rfl rfl ?_
  refine r_get (pc' := 10) rfl mx_o (mx_Fa (k := 11) (r := 6) rfl) rfl ?_
  refine r_s (e := (10, .iload_n 3, 1, 0, 0, 0)) (pc' := 11) rfl rfl rfl ?_
  refine r_s (e := (11, .iload 4, 2, 0, 0, 0)) (pc' := 13) rfl rfl rfl ?_
  -- Model_isPut: call 13
  refine r_call (e := (13, .invokevirtual 189, 3, 36, 0, 266)) (as := [.ref M, .ref (M + 1 + 6), .int (nI x), .ref (M + 1 + 6), .int (nI y), .int (nI m)]) (rest := []) rfl rfl ax_Z_36 rfl rfl (mx_rc rfl) (Nat.le_of_ble_eq_true rfl) (Nat.le_of_ble_eq_true rfl) (by decide) (by decide) (c_isPutIn (ra := 6) (rb := 6) (ka := 11) (kb := 11) (na := 1440) (nb := 1440) rfl rfl (by decide) (by decide) (by decide) (by decide) hm hx hp) ?_
  cases b
  · exact r_ret (e := (16, .ireturn, 1, 0, 0, 0)) rfl rfl rfl
    -- Model_isPut: ret 16
  · exact r_ret (e := (16, .ireturn, 1, 0, 0, 0)) rfl rfl rfl
    -- Model_isPut: ret 16
def mx_ln (ar : Nat → Int32) : Nat → Int32 → Option Nat
  | 0, _ => none
  | n + 1, s => if s = -1 then some 0 else if s < 0 ∨ 8 ≤ s.toNatClampNeg then none else (mx_ln ar n (ar s.toNatClampNeg)).map (· + 1)
theorem c_liesIn_loop {x0 : Int32} : ∀ n (s : Int32) c y, mx_ln (a 8) n s = some y → ax_R 0 0 c_Model_liesIn (some .int) 9 [some (.ref M), some (.int x0), some (.int (nI c)), some (.int s)] [] (mx_H h M f a w) (some (.int (nI (c + y)))) (mx_H h M f a w) := by
  intro n
  induction n with
  | zero => intro s c y hx; cases hx
  | succ n ih =>
    intro s c y hx
    unfold mx_ln at hx
    by_cases q : s = -1
    · rw [if_pos q] at hx
      injection hx with hx
      subst hx
      refine r_s (e := (9, .iload_n 3, 1, 0, 0, 0)) (pc' := 10) rfl rfl rfl ?_
      refine r_s (e := (10, .iconst (-1), 1, 0, 0, 0)) (pc' := 11) rfl rfl rfl ?_
      refine r_ict (pc' := 27) rfl (decide_eq_true (q)) rfl ?_
      refine r_s (e := (27, .iload_n 2, 1, 0, 0, 0)) (pc' := 28) rfl rfl rfl ?_
      exact r_ret (e := (28, .ireturn, 1, 0, 0, 0)) rfl rfl rfl
      -- Model_liesIn: ret 28
    · rw [if_neg q] at hx
      by_cases q2 : s < 0 ∨ 8 ≤ s.toNatClampNeg
      · rw [if_pos q2] at hx; cases hx
      · rw [if_neg q2] at hx
        obtain ⟨j, hj, rfl⟩ := nI_of (fun g => q2 (Or.inl g))
        rw [nI_clamp hj] at hx q2
        have hi : ax_ix (nI j) 8 = true := ix_nI (by omega) (by omega)
        cases hy : mx_ln (a 8) n (a 8 j) with
        | none => rw [hy] at hx; cases hx
        | some z =>
          rw [hy] at hx
          have ez : z + 1 = y := by injection hx
          subst ez
          refine r_s (e := (9, .iload_n 3, 1, 0, 0, 0)) (pc' := 10) rfl rfl rfl ?_
          refine r_s (e := (10, .iconst (-1), 1, 0, 0, 0)) (pc' := 11) rfl rfl rfl ?_
          refine r_icf (pc' := 14) rfl (decide_eq_false (q)) rfl ?_
          refine r_s (e := (14, .iinc 2 1, 3, 0, 0, 0)) (pc' := 17) rfl rfl rfl ?_
          refine r_s (e := (17, .aload_n 0, 1, 0, 0, 0)) (pc' := 18) rfl rfl rfl ?_
          refine r_get (pc' := 21) rfl mx_o (mx_Fa (k := 8) (r := 3) rfl) rfl ?_
          refine r_s (e := (21, .iload_n 3, 1, 0, 0, 0)) (pc' := 22) rfl rfl rfl ?_
          refine r_iald (pc' := 23) rfl (mx_a (r := 3) (k := 8) rfl (by decide)) hi rfl rfl ?_
          refine r_s (e := (23, .istore_n 3, 1, 0, 0, 0)) (pc' := 24) rfl rfl rfl ?_
          refine r_s (e := (24, .goto (-15), 3, 0, 0, 0)) (pc' := 9) rfl rfl rfl ?_
          -- Model_liesIn: stop 9
          rw [nI_clamp hj]
          have hh := ih (a 8 j) (c + 1) z hy
          rw [nI_succ, show c + 1 + z = c + (z + 1) by omega] at hh
          exact hh
theorem c_liesIn {n k y : Nat} (hk : k < 8) (hx : mx_ln (a 8) n (a 8 k) = some y) : ax_R 0 0 c_Model_liesIn (some .int) 0 (ax_ent 4 [.ref M, .int (nI k)]) [] (mx_H h M f a w) (some (.int (nI y))) (mx_H h M f a w) := by
  have hi : ax_ix (nI k) 8 = true := ix_nI hk (by omega)
  refine r_s (e := (0, .iconst 0, 1, 0, 0, 0)) (pc' := 1) rfl rfl rfl ?_
  refine r_s (e := (1, .istore_n 2, 1, 0, 0, 0)) (pc' := 2) rfl rfl rfl ?_
  refine r_s (e := (2, .aload_n 0, 1, 0, 0, 0)) (pc' := 3) rfl rfl rfl ?_
  refine r_get (pc' := 6) rfl mx_o (mx_Fa (k := 8) (r := 3) rfl) rfl ?_
  refine r_s (e := (6, .iload_n 1, 1, 0, 0, 0)) (pc' := 7) rfl rfl rfl ?_
  refine r_iald (pc' := 8) rfl (mx_a (r := 3) (k := 8) rfl (by decide)) hi rfl rfl ?_
  refine r_s (e := (8, .istore_n 3, 1, 0, 0, 0)) (pc' := 9) rfl rfl rfl ?_
  -- Model_liesIn: stop 9
  rw [nI_clamp (by omega)]
  have hh := c_liesIn_loop (h := h) (M := M) (f := f) (w := w) (x0 := nI k) n (a 8 k) 0 y hx
  rw [Nat.zero_add] at hh
  exact hh
end MA
