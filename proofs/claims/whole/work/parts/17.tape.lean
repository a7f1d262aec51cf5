/-! The reference: its tape. -/
section M1
variable {h : ax_H} {M : Nat} {f : Nat → Int32} {a : Nat → Nat → Int32} {w : Nat → Nat → Int64}
theorem ix_nI {p n : Nat} (h : p < n) (hn : n < 2 ^ 31) : ax_ix (nI p) n = true := by
  unfold ax_ix
  rw [nI_clamp (by omega)]
  simp only [Bool.and_eq_true, decide_eq_true_eq]
  exact ⟨nI_pos (by omega), h⟩
theorem c_here {p n : Nat} (hp : f 2 = nI p) (hn : f 1 = nI n) (hn8 : n ≤ 800) (hp8 : p ≤ 800) : ax_R 0 0 c_Model_here (some .int) 0 (ax_ent 1 [.ref M]) [] (mx_H h M f a w) (some (.int (if p < n then a 0 p &&& 255 else -1))) (mx_H h M f a w) := by
  refine r_s (e := (0, .aload_n 0, 1, 0, 0, 0)) (pc' := 1) rfl rfl rfl ?_
  refine r_get (pc' := 4) rfl mx_o (mx_Fi (k := 2) rfl) rfl ?_
  refine r_s (e := (4, .aload_n 0, 1, 0, 0, 0)) (pc' := 5) rfl rfl rfl ?_
  refine r_get (pc' := 8) rfl mx_o (mx_Fi (k := 1) rfl) rfl ?_
  refine r_icmp (t := 27) (f := 11) rfl rfl rfl rfl (fun hc => ?_) (fun hc => ?_)
  -- Model_here: br 27 11
  · rw [hp, hn] at hc
    have hq : ¬ p < n := by have := (nI_leI (a := n) (b := p) (by omega) (by omega)).mp hc; omega
    rw [if_neg hq]
    refine r_s (e := (27, .iconst (-1), 1, 0, 0, 0)) (pc' := 28) rfl rfl rfl ?_
    exact r_ret (e := (28, .ireturn, 1, 0, 0, 0)) rfl rfl rfl
    -- Model_here: ret 28
  · rw [hp, hn] at hc
    have hq : p < n := by
      have := (not_congr (nI_leI (a := n) (b := p) (by omega) (by omega))).mp hc
      omega
    rw [if_pos hq]
    have hi : ax_ix (f 2) 800 = true := by rw [hp]; exact ix_nI (by omega) (by omega)
    have e : a 0 p = a 0 (f 2).toNatClampNeg := by rw [hp, nI_clamp (by omega)]
    rw [e]
    refine r_s (e := (11, .aload_n 0, 1, 0, 0, 0)) (pc' := 12) rfl rfl rfl ?_
    refine r_get (pc' := 15) rfl mx_o (mx_Fa (k := 0) (r := 0) rfl) rfl ?_
    refine r_s (e := (15, .aload_n 0, 1, 0, 0, 0)) (pc' := 16) rfl rfl rfl ?_
    refine r_get (pc' := 19) rfl mx_o (mx_Fi (k := 2) rfl) rfl ?_
    refine r_bald (pc' := 20) rfl (mx_a (r := 0) (k := 0) rfl (by decide)) (by decide) hi rfl rfl ?_
    refine r_s (e := (20, .sipush 255, 3, 0, 0, 0)) (pc' := 23) rfl rfl rfl ?_
    refine r_s (e := (23, .iand, 1, 0, 0, 0)) (pc' := 24) rfl rfl rfl ?_
    refine r_s (e := (24, .goto 4, 3, 0, 0, 0)) (pc' := 28) rfl rfl rfl ?_
    exact r_ret (e := (28, .ireturn, 1, 0, 0, 0)) rfl rfl rfl
    -- Model_here: ret 28
theorem c_fails {x : Int32} : ax_R 0 0 c_Model_fails (some .boolean) 0 (ax_ent 2 [.ref M, .int x]) [] (mx_H h M f a w) (some (.int 0)) (mx_H h M (upd f 3 x) a w) := by
  refine r_s (e := (0, .aload_n 0, 1, 0, 0, 0)) (pc' := 1) rfl rfl rfl ?_
  refine r_s (e := (1, .iload_n 1, 1, 0, 0, 0)) (pc' := 2) rfl rfl rfl ?_
  refine r_put (pc' := 5) rfl mx_o rfl rfl (mx_put (k := 3) rfl) ?_
  refine r_s (e := (5, .iconst 0, 1, 0, 0, 0)) (pc' := 6) rfl rfl rfl ?_
  exact r_ret (e := (6, .ireturn, 1, 0, 0, 0)) rfl rfl rfl
  -- Model_fails: ret 6
end M1
