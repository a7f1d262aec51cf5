/-! The reference: bits of a set. -/
section MB
variable {h : ax_H}
def mx_bits : Nat → Int32 → Option Nat
  | 0, _ => none
  | n + 1, s => if s = 0 then some 0 else (mx_bits n (s &&& (s - 1))).map (· + 1)
theorem c_bits_loop {x0 : Int32} : ∀ n (s : Int32) c y, mx_bits n s = some y → ax_R 0 0 c_Model_bits (some .int) 4 [some (.int x0), some (.int (nI c)), some (.int s)] [] h (some (.int (nI (c + y)))) h := by
  intro n
  induction n with
  | zero => intro s c y hx; cases hx
  | succ n ih =>
    intro s c y hx
    unfold mx_bits at hx
    by_cases q : s = 0
    · rw [if_pos q] at hx
      injection hx with hx
      subst hx
      refine r_s (e := (4, .iload_n 2, 1, 0, 0, 0)) (pc' := 5) rfl rfl rfl ?_
      refine r_ift (pc' := 20) rfl (decide_eq_true (q)) rfl ?_
      refine r_s (e := (20, .iload_n 1, 1, 0, 0, 0)) (pc' := 21) rfl rfl rfl ?_
      exact r_ret (e := (21, .ireturn, 1, 0, 0, 0)) rfl rfl rfl
      -- Model_bits: ret 21
    · rw [if_neg q] at hx
      cases hy : mx_bits n (s &&& (s - 1)) with
      | none => rw [hy] at hx; cases hx
      | some z =>
        rw [hy] at hx
        have ez : z + 1 = y := by injection hx
        subst ez
        refine r_s (e := (4, .iload_n 2, 1, 0, 0, 0)) (pc' := 5) rfl rfl rfl ?_
        refine r_iff (pc' := 8) rfl (decide_eq_false (q)) rfl ?_
        refine r_s (e := (8, .iinc 1 1, 3, 0, 0, 0)) (pc' := 11) rfl rfl rfl ?_
        refine r_s (e := (11, .iload_n 2, 1, 0, 0, 0)) (pc' := 12) rfl rfl rfl ?_
        refine r_s (e := (12, .iload_n 2, 1, 0, 0, 0)) (pc' := 13) rfl rfl rfl ?_
        refine r_s (e := (13, .iconst 1, 1, 0, 0, 0)) (pc' := 14) rfl rfl rfl ?_
        refine r_s (e := (14, .isub, 1, 0, 0, 0)) (pc' := 15) rfl rfl rfl ?_
        refine r_s (e := (15, .iand, 1, 0, 0, 0)) (pc' := 16) rfl rfl rfl ?_
        refine r_s (e := (16, .istore_n 2, 1, 0, 0, 0)) (pc' := 17) rfl rfl rfl ?_
        refine r_s (e := (17, .goto (-13), 3, 0, 0, 0)) (pc' := 4) rfl rfl rfl ?_
        -- Model_bits: stop 4
        have hh := ih (s &&& (s - 1)) (c + 1) z hy
        rw [nI_succ, show c + 1 + z = c + (z + 1) by omega] at hh
        exact hh
theorem c_bits {n y : Nat} {s : Int32} (hx : mx_bits n s = some y) : ax_R 0 0 c_Model_bits (some .int) 0 (ax_ent 3 [.int s]) [] h (some (.int (nI y))) h := by
  refine r_s (e := (0, .iconst 0, 1, 0, 0, 0)) (pc' := 1) rfl rfl rfl ?_
  refine r_s (e := (1, .istore_n 1, 1, 0, 0, 0)) (pc' := 2) rfl rfl rfl ?_
  refine r_s (e := (2, .iload_n 0, 1, 0, 0, 0)) (pc' := 3) rfl rfl rfl ?_
  refine r_s (e := (3, .istore_n 2, 1, 0, 0, 0)) (pc' := 4) rfl rfl rfl ?_
  -- Model_bits: stop 4
  have hh := c_bits_loop (h := h) (x0 := s) n s 0 y hx
  rw [Nat.zero_add] at hh
  exact hh
end MB
