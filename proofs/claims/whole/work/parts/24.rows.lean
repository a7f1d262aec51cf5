/-! The reference: rows of things. -/
section M8
variable {h : ax_H} {M : Nat} {f : Nat → Int32} {a : Nat → Nat → Int32} {w : Nat → Nat → Int64}
def mx_po (t : Int32) : Nat := if 0 ≤ t then t.toNatClampNeg % 4 else 0
theorem mx_po_4 {t : Int32} : mx_po t < 4 := by
  unfold mx_po
  by_cases q : 0 ≤ t
  · rw [if_pos q]; omega
  · rw [if_neg q]; omega
theorem mx_po_eq {t : Int32} : (if 0 ≤ t then t - t / 4 * 4 else 0) = nI (mx_po t) := by
  unfold mx_po
  by_cases q : 0 ≤ t
  · rw [if_pos q, if_pos q]
    obtain ⟨j, hj, rfl⟩ := nI_of (Int32.not_lt.mpr q)
    rw [nI_clamp hj]
    exact pk_rem (a := j) (d := 4) hj (by decide) (by decide)
  · rw [if_neg q, if_neg q]
    exact nI_0.symm
theorem c_parts {t : Int32} : ax_R 0 0 c_Model_partsOf (some .int) 0 (ax_ent 1 [.int t]) [] h (some (.int (nI (mx_po t)))) h := by
  rw [← mx_po_eq]
  exact c_partsOf
def mx_bh (x : Nat → Int32) (len : Nat) : Nat → Nat → Nat → Option Nat
  | 0, _, _ => none
  | n + 1, d, p => if d = 0 then some p else if p < len ∧ d < 100000 then mx_bh x len n (d - 1 + mx_po (x p)) (p + 1) else none
theorem nI_shift {e m : Nat} : nI (e + 1) + (nI m - Int32.ofInt 1) = nI (e + 1 - 1 + m) := by
  rw [show Int32.ofInt 1 = 1 from rfl, nI_succ, Int32.sub_eq_add_neg, Int32.add_assoc, ← Int32.add_assoc 1, Int32.add_comm 1 (nI m), Int32.add_assoc (nI m), Int32.add_right_neg, Int32.add_zero, nI_add, Nat.add_sub_cancel]
theorem c_behind_loop {k r n1 p0 y : Nat} (ht : mx_T[r]? = some (k, 0, n1)) (b1 : n1 < 2 ^ 30) : ∀ n d p, mx_bh (a k) n1 n d p = some y → d < 2 ^ 30 → ax_R 1 20 c_Model_behind (some .int) 4 [some (.ref (M + 1 + r)), some (.int (nI p0)), some (.int (nI d)), some (.int (nI p))] [] (mx_H h M f a w) (some (.int (nI y))) (mx_H h M f a w) := by
  intro n
  induction n with
  | zero => intro d p hx; cases hx
  | succ n ih =>
    intro d p hx hd
    unfold mx_bh at hx
    by_cases q0 : d = 0
    · rw [if_pos q0] at hx
      obtain rfl : p = y := by injection hx
      subst q0
      refine r_s (e := (4, .iload_n 2, 1, 0, 0, 0)) (pc' := 5) rfl rfl rfl ?_
      refine r_ift (pc' := 25) rfl rfl rfl ?_
      refine r_s (e := (25, .iload_n 3, 1, 0, 0, 0)) (pc' := 26) rfl rfl rfl ?_
      exact r_ret (e := (26, .ireturn, 1, 0, 0, 0)) rfl rfl rfl
      -- Model_behind: ret 26
    · rw [if_neg q0] at hx
      by_cases q1 : p < n1 ∧ d < 100000
      · rw [if_pos q1] at hx
        have hi : ax_ix (nI p) n1 = true := ix_nI q1.1 (by omega)
        refine r_s (e := (4, .iload_n 2, 1, 0, 0, 0)) (pc' := 5) rfl rfl rfl ?_
        refine r_iff (pc' := 8) rfl (decide_eq_false (nI_nle (by omega) (by omega))) rfl ?_
        refine r_s (e := (8, .iload_n 2, 1, 0, 0, 0)) (pc' := 9) rfl rfl rfl ?_
        refine r_s (e := (9, .aload_n 0, 1, 0, 0, 0)) (pc' := 10) rfl rfl rfl ?_
        refine r_s (e := (10, .iload_n 3, 1, 0, 0, 0)) (pc' := 11) rfl rfl rfl ?_
        -- Model_behind: stop 11
        refine r_iald (pc' := 12) rfl (mx_a ht (by decide)) hi rfl rfl ?_
        rw [nI_clamp (by omega)]
        have e1 : nI d + (nI (mx_po (a k p)) - Int32.ofInt 1) = nI (d - 1 + mx_po (a k p)) := by
          obtain ⟨e, rfl⟩ : ∃ e, d = e + 1 := ⟨d - 1, by omega⟩
          exact nI_shift
        refine r_call (e := (12, .invokestatic 186, 3, 5, 1, 268)) (as := [.int (a k p)]) (rest := [.int (nI d)]) rfl rfl ax_Z_5 rfl rfl rfl (Nat.le_of_ble_eq_true rfl) (Nat.le_of_ble_eq_true rfl) (by decide) (by decide) (c_parts) ?_
        refine r_s (e := (15, .iconst 1, 1, 0, 0, 0)) (pc' := 16) rfl rfl rfl ?_
        refine r_s (e := (16, .isub, 1, 0, 0, 0)) (pc' := 17) rfl rfl rfl ?_
        refine r_s (e := (17, .iadd, 1, 0, 0, 0)) (pc' := 18) rfl rfl rfl ?_
        -- Model_behind: stop 18
        rw [e1]
        refine r_s (e := (18, .istore_n 2, 1, 0, 0, 0)) (pc' := 19) rfl rfl rfl ?_
        refine r_s (e := (19, .iinc 3 1, 3, 0, 0, 0)) (pc' := 22) rfl rfl rfl ?_
        refine r_s (e := (22, .goto (-18), 3, 0, 0, 0)) (pc' := 4) rfl rfl rfl ?_
        -- Model_behind: stop 4
        have hh := ih (d - 1 + mx_po (a k p)) (p + 1) hx (by have := @mx_po_4 (a k p); omega)
        rw [nI_succ] at hh
        exact hh
      · rw [if_neg q1] at hx; cases hx
theorem c_behind {k r n1 n p y : Nat} (ht : mx_T[r]? = some (k, 0, n1)) (b1 : n1 < 2 ^ 30) (hy : mx_bh (a k) n1 n 1 p = some y) : ax_R 1 20 c_Model_behind (some .int) 0 (ax_ent 4 [.ref (M + 1 + r), .int (nI p)]) [] (mx_H h M f a w) (some (.int (nI y))) (mx_H h M f a w) := by
  refine r_s (e := (0, .iconst 1, 1, 0, 0, 0)) (pc' := 1) rfl rfl rfl ?_
  refine r_s (e := (1, .istore_n 2, 1, 0, 0, 0)) (pc' := 2) rfl rfl rfl ?_
  refine r_s (e := (2, .iload_n 1, 1, 0, 0, 0)) (pc' := 3) rfl rfl rfl ?_
  refine r_s (e := (3, .istore_n 3, 1, 0, 0, 0)) (pc' := 4) rfl rfl rfl ?_
  -- Model_behind: stop 4
  exact c_behind_loop ht b1 n 1 p hy (by omega)
end M8
