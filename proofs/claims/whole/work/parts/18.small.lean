/-! The reference: small methods. -/
section M2
variable {h : ax_H} {M : Nat} {f : Nat → Int32} {a : Nat → Nat → Int32} {w : Nat → Nat → Int64}
theorem mx_rc {mt : ax_Mt} {k : Nat} {as : List Value} (hm : mt.1 = 1) : ax_rc mt k (.ref M :: as) (mx_H h M f a w) = true := by
  unfold ax_rc
  by_cases q : k = 1 ∨ k = 5
  · rw [if_pos q]
  · rw [if_neg q]
    dsimp only
    rw [mx_o]
    dsimp only
    exact decide_eq_true hm.symm
theorem c_isIn {v l t : Int32} : ax_R 0 0 c_Model_isIn (some .boolean) 0 (ax_ent 3 [.int v, .int l, .int t]) [] h (some (.int (if l ≤ v ∧ v ≤ t then 1 else 0))) h := by
  refine r_s (e := (0, .iload_n 0, 1, 0, 0, 0)) (pc' := 1) rfl rfl rfl ?_
  refine r_s (e := (1, .iload_n 1, 1, 0, 0, 0)) (pc' := 2) rfl rfl rfl ?_
  refine r_icmp (t := 14) (f := 5) rfl rfl rfl rfl (fun hc => ?_) (fun hc => ?_)
  -- Model_isIn: br 14 5
  · rw [if_neg (fun q => Int32.not_lt.mpr q.1 hc)]
    refine r_s (e := (14, .iconst 0, 1, 0, 0, 0)) (pc' := 15) rfl rfl rfl ?_
    exact r_ret (e := (15, .ireturn, 1, 0, 0, 0)) rfl rfl rfl
    -- Model_isIn: ret 15
  · have hc0 := hc
    refine r_s (e := (5, .iload_n 0, 1, 0, 0, 0)) (pc' := 6) rfl rfl rfl ?_
    refine r_s (e := (6, .iload_n 2, 1, 0, 0, 0)) (pc' := 7) rfl rfl rfl ?_
    refine r_icmp (t := 14) (f := 10) rfl rfl rfl rfl (fun hc => ?_) (fun hc => ?_)
    -- Model_isIn: br 14 10
    · rw [if_neg (fun q => Int32.not_lt.mpr q.2 hc)]
      refine r_s (e := (14, .iconst 0, 1, 0, 0, 0)) (pc' := 15) rfl rfl rfl ?_
      exact r_ret (e := (15, .ireturn, 1, 0, 0, 0)) rfl rfl rfl
      -- Model_isIn: ret 15
    · rw [if_pos ⟨Int32.not_lt.mp hc0, Int32.not_lt.mp hc⟩]
      refine r_s (e := (10, .iconst 1, 1, 0, 0, 0)) (pc' := 11) rfl rfl rfl ?_
      refine r_s (e := (11, .goto 4, 3, 0, 0, 0)) (pc' := 15) rfl rfl rfl ?_
      exact r_ret (e := (15, .ireturn, 1, 0, 0, 0)) rfl rfl rfl
      -- Model_isIn: ret 15
theorem c_has {s k : Int32} : ax_R 0 0 c_Model_has (some .boolean) 0 (ax_ent 2 [.int s, .int k]) [] h (some (.int (if (s >>> (k &&& 31)) &&& 1 = 1 then 1 else 0))) h := by
  refine r_s (e := (0, .iload_n 0, 1, 0, 0, 0)) (pc' := 1) rfl rfl rfl ?_
  refine r_s (e := (1, .iload_n 1, 1, 0, 0, 0)) (pc' := 2) rfl rfl rfl ?_
  refine r_s (e := (2, .ishr, 1, 0, 0, 0)) (pc' := 3) rfl rfl rfl ?_
  refine r_s (e := (3, .iconst 1, 1, 0, 0, 0)) (pc' := 4) rfl rfl rfl ?_
  refine r_s (e := (4, .iand, 1, 0, 0, 0)) (pc' := 5) rfl rfl rfl ?_
  refine r_s (e := (5, .iconst 1, 1, 0, 0, 0)) (pc' := 6) rfl rfl rfl ?_
  refine r_icmp (t := 13) (f := 9) rfl rfl rfl rfl (fun hc => ?_) (fun hc => ?_)
  -- Model_has: br 13 9
  · rw [if_neg (show ¬ ((s >>> (k &&& 31)) &&& 1 = 1) from hc)]
    refine r_s (e := (13, .iconst 0, 1, 0, 0, 0)) (pc' := 14) rfl rfl rfl ?_
    exact r_ret (e := (14, .ireturn, 1, 0, 0, 0)) rfl rfl rfl
    -- Model_has: ret 14
  · rw [if_pos (show ((s >>> (k &&& 31)) &&& 1 = 1) from Classical.not_not.mp hc)]
    refine r_s (e := (9, .iconst 1, 1, 0, 0, 0)) (pc' := 10) rfl rfl rfl ?_
    refine r_s (e := (10, .goto 4, 3, 0, 0, 0)) (pc' := 14) rfl rfl rfl ?_
    exact r_ret (e := (14, .ireturn, 1, 0, 0, 0)) rfl rfl rfl
    -- Model_has: ret 14
theorem c_takes {c : Int32} {p n : Nat} (hp : f 2 = nI p) (hn : f 1 = nI n) (hn8 : n ≤ 800) (hp8 : p ≤ 800) : ax_R 1 21 c_Model_takes (some .boolean) 0 (ax_ent 2 [.ref M, .int c]) [] (mx_H h M f a w) (some (.int (if (if p < n then a 0 p &&& 255 else -1) = c then 1 else 0))) (mx_H h M (if (if p < n then a 0 p &&& 255 else -1) = c then upd f 2 (f 2 + 1) else upd f 3 (f 2)) a w) := by
  refine r_s (e := (0, .aload_n 0, 1, 0, 0, 0)) (pc' := 1) rfl rfl rfl ?_
  -- Model_takes: call 1
  refine r_call (e := (1, .invokevirtual 25, 3, 9, 0, 253)) (as := [.ref M]) (rest := []) rfl rfl ax_Z_9 rfl rfl (mx_rc rfl) (Nat.le_of_ble_eq_true rfl) (Nat.le_of_ble_eq_true rfl) (Nat.le_refl _) (by decide) (c_here hp hn hn8 hp8) ?_
  refine r_s (e := (4, .iload_n 1, 1, 0, 0, 0)) (pc' := 5) rfl rfl rfl ?_
  refine r_icmp (t := 17) (f := 8) rfl rfl rfl rfl (fun hc => ?_) (fun hc => ?_)
  -- Model_takes: br 17 8
  · rw [if_pos hc, if_pos hc]
    refine r_s (e := (17, .aload_n 0, 1, 0, 0, 0)) (pc' := 18) rfl rfl rfl ?_
    refine r_s (e := (18, .dup, 1, 0, 0, 0)) (pc' := 19) rfl rfl rfl ?_
    refine r_get (pc' := 22) rfl mx_o (mx_Fi (k := 2) rfl) rfl ?_
    refine r_s (e := (22, .iconst 1, 1, 0, 0, 0)) (pc' := 23) rfl rfl rfl ?_
    refine r_s (e := (23, .iadd, 1, 0, 0, 0)) (pc' := 24) rfl rfl rfl ?_
    refine r_put (pc' := 27) rfl mx_o rfl rfl (mx_put (k := 2) rfl) ?_
    refine r_s (e := (27, .iconst 1, 1, 0, 0, 0)) (pc' := 28) rfl rfl rfl ?_
    exact r_ret (e := (28, .ireturn, 1, 0, 0, 0)) rfl rfl rfl
    -- Model_takes: ret 28
  · rw [if_neg hc, if_neg hc]
    refine r_s (e := (8, .aload_n 0, 1, 0, 0, 0)) (pc' := 9) rfl rfl rfl ?_
    refine r_s (e := (9, .aload_n 0, 1, 0, 0, 0)) (pc' := 10) rfl rfl rfl ?_
    refine r_get (pc' := 13) rfl mx_o (mx_Fi (k := 2) rfl) rfl ?_
    -- Model_takes: call 13
    refine r_call (e := (13, .invokevirtual 29, 3, 10, 0, 254)) (as := [.ref M, .int (f 2)]) (rest := []) rfl rfl ax_Z_10 rfl rfl (mx_rc rfl) (Nat.le_of_ble_eq_true rfl) (Nat.le_of_ble_eq_true rfl) (Nat.le_refl _) (by decide) c_fails ?_
    exact r_ret (e := (16, .ireturn, 1, 0, 0, 0)) rfl rfl rfl
    -- Model_takes: ret 16
end M2
