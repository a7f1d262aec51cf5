/-! The reference: further small methods. -/
section M5
variable {h : ax_H} {M : Nat} {f : Nat → Int32} {a : Nat → Nat → Int32} {w : Nat → Nat → Int64}
theorem c_isVar {v : Int32} : ax_R 0 0 c_Model_isVar (some .boolean) 0 (ax_ent 1 [.int v]) [] h (some (.int (if 97 ≤ v ∧ v ≤ 122 then 1 else 0))) h := by
  refine r_s (e := (0, .iload_n 0, 1, 0, 0, 0)) (pc' := 1) rfl rfl rfl ?_
  refine r_s (e := (1, .bipush 97, 2, 0, 0, 0)) (pc' := 3) rfl rfl rfl ?_
  refine r_icmp (t := 16) (f := 6) rfl rfl rfl rfl (fun hc => ?_) (fun hc => ?_)
  -- Model_isVar: br 16 6
  · rw [if_neg (fun q => Int32.not_lt.mpr q.1 hc)]
    refine r_s (e := (16, .iconst 0, 1, 0, 0, 0)) (pc' := 17) rfl rfl rfl ?_
    exact r_ret (e := (17, .ireturn, 1, 0, 0, 0)) rfl rfl rfl
    -- Model_isVar: ret 17
  · have hc0 := hc
    refine r_s (e := (6, .iload_n 0, 1, 0, 0, 0)) (pc' := 7) rfl rfl rfl ?_
    refine r_s (e := (7, .bipush 122, 2, 0, 0, 0)) (pc' := 9) rfl rfl rfl ?_
    refine r_icmp (t := 16) (f := 12) rfl rfl rfl rfl (fun hc => ?_) (fun hc => ?_)
    -- Model_isVar: br 16 12
    · rw [if_neg (fun q => Int32.not_lt.mpr q.2 hc)]
      refine r_s (e := (16, .iconst 0, 1, 0, 0, 0)) (pc' := 17) rfl rfl rfl ?_
      exact r_ret (e := (17, .ireturn, 1, 0, 0, 0)) rfl rfl rfl
      -- Model_isVar: ret 17
    · rw [if_pos ⟨Int32.not_lt.mp hc0, Int32.not_lt.mp hc⟩]
      refine r_s (e := (12, .iconst 1, 1, 0, 0, 0)) (pc' := 13) rfl rfl rfl ?_
      refine r_s (e := (13, .goto 4, 3, 0, 0, 0)) (pc' := 17) rfl rfl rfl ?_
      exact r_ret (e := (17, .ireturn, 1, 0, 0, 0)) rfl rfl rfl
      -- Model_isVar: ret 17
theorem c_isCon {v : Int32} : ax_R 0 0 c_Model_isCon (some .boolean) 0 (ax_ent 1 [.int v]) [] h (some (.int (if 65 ≤ v ∧ v ≤ 90 then 1 else 0))) h := by
  refine r_s (e := (0, .iload_n 0, 1, 0, 0, 0)) (pc' := 1) rfl rfl rfl ?_
  refine r_s (e := (1, .bipush 65, 2, 0, 0, 0)) (pc' := 3) rfl rfl rfl ?_
  refine r_icmp (t := 16) (f := 6) rfl rfl rfl rfl (fun hc => ?_) (fun hc => ?_)
  -- Model_isCon: br 16 6
  · rw [if_neg (fun q => Int32.not_lt.mpr q.1 hc)]
    refine r_s (e := (16, .iconst 0, 1, 0, 0, 0)) (pc' := 17) rfl rfl rfl ?_
    exact r_ret (e := (17, .ireturn, 1, 0, 0, 0)) rfl rfl rfl
    -- Model_isCon: ret 17
  · have hc0 := hc
    refine r_s (e := (6, .iload_n 0, 1, 0, 0, 0)) (pc' := 7) rfl rfl rfl ?_
    refine r_s (e := (7, .bipush 90, 2, 0, 0, 0)) (pc' := 9) rfl rfl rfl ?_
    refine r_icmp (t := 16) (f := 12) rfl rfl rfl rfl (fun hc => ?_) (fun hc => ?_)
    -- Model_isCon: br 16 12
    · rw [if_neg (fun q => Int32.not_lt.mpr q.2 hc)]
      refine r_s (e := (16, .iconst 0, 1, 0, 0, 0)) (pc' := 17) rfl rfl rfl ?_
      exact r_ret (e := (17, .ireturn, 1, 0, 0, 0)) rfl rfl rfl
      -- Model_isCon: ret 17
    · rw [if_pos ⟨Int32.not_lt.mp hc0, Int32.not_lt.mp hc⟩]
      refine r_s (e := (12, .iconst 1, 1, 0, 0, 0)) (pc' := 13) rfl rfl rfl ?_
      refine r_s (e := (13, .goto 4, 3, 0, 0, 0)) (pc' := 17) rfl rfl rfl ?_
      exact r_ret (e := (17, .ireturn, 1, 0, 0, 0)) rfl rfl rfl
      -- Model_isCon: ret 17
theorem c_con {l p : Int32} : ax_R 0 0 c_Model_con (some .int) 0 (ax_ent 2 [.int l, .int p]) [] h (some (.int (4 * l + p))) h := by
  refine r_s (e := (0, .iconst 4, 1, 0, 0, 0)) (pc' := 1) rfl rfl rfl ?_
  refine r_s (e := (1, .iload_n 0, 1, 0, 0, 0)) (pc' := 2) rfl rfl rfl ?_
  refine r_s (e := (2, .imul, 1, 0, 0, 0)) (pc' := 3) rfl rfl rfl ?_
  refine r_s (e := (3, .iload_n 1, 1, 0, 0, 0)) (pc' := 4) rfl rfl rfl ?_
  refine r_s (e := (4, .iadd, 1, 0, 0, 0)) (pc' := 5) rfl rfl rfl ?_
  exact r_ret (e := (5, .ireturn, 1, 0, 0, 0)) rfl rfl rfl
  -- Model_con: ret 5
theorem c_var {l : Int32} : ax_R 0 0 c_Model_var (some .int) 0 (ax_ent 1 [.int l]) [] h (some (.int (-1 - l))) h := by
  refine r_s (e := (0, .iconst (-1), 1, 0, 0, 0)) (pc' := 1) rfl rfl rfl ?_
  refine r_s (e := (1, .iload_n 0, 1, 0, 0, 0)) (pc' := 2) rfl rfl rfl ?_
  refine r_s (e := (2, .isub, 1, 0, 0, 0)) (pc' := 3) rfl rfl rfl ?_
  exact r_ret (e := (3, .ireturn, 1, 0, 0, 0)) rfl rfl rfl
  -- Model_var: ret 3
theorem c_partsOf {t : Int32} : ax_R 0 0 c_Model_partsOf (some .int) 0 (ax_ent 1 [.int t]) [] h (some (.int (if 0 ≤ t then t - t / 4 * 4 else 0))) h := by
  refine r_s (e := (0, .iload_n 0, 1, 0, 0, 0)) (pc' := 1) rfl rfl rfl ?_
  refine r_if (t := 8) (f := 4) rfl rfl rfl rfl (fun hc => ?_) (fun hc => ?_)
  -- Model_partsOf: br 8 4
  · rw [if_pos (show (0 : Int32) ≤ t from hc)]
    refine r_s (e := (8, .iload_n 0, 1, 0, 0, 0)) (pc' := 9) rfl rfl rfl ?_
    refine r_s (e := (9, .iconst 4, 1, 0, 0, 0)) (pc' := 10) rfl rfl rfl ?_
    refine r_rem (pc' := 11) rfl (by decide) rfl ?_
    exact r_ret (e := (11, .ireturn, 1, 0, 0, 0)) rfl rfl rfl
    -- Model_partsOf: ret 11
  · rw [if_neg (show ¬ (0 : Int32) ≤ t from hc)]
    refine r_s (e := (4, .iconst 0, 1, 0, 0, 0)) (pc' := 5) rfl rfl rfl ?_
    refine r_s (e := (5, .goto 6, 3, 0, 0, 0)) (pc' := 11) rfl rfl rfl ?_
    exact r_ret (e := (11, .ireturn, 1, 0, 0, 0)) rfl rfl rfl
    -- Model_partsOf: ret 11
theorem c_fault : ax_R 0 0 c_Model_fault (some .int) 0 (ax_ent 1 [.ref M]) [] (mx_H h M f a w) (some (.int (f 3))) (mx_H h M f a w) := by
  refine r_s (e := (0, .aload_n 0, 1, 0, 0, 0)) (pc' := 1) rfl rfl rfl ?_
  refine r_get (pc' := 4) rfl mx_o (mx_Fi (k := 3) rfl) rfl ?_
  exact r_ret (e := (4, .ireturn, 1, 0, 0, 0)) rfl rfl rfl
  -- Model_fault: ret 4
theorem c_beginText : ax_R 0 0 c_Model_beginText none 0 (ax_ent 1 [.ref M]) [] (mx_H h M f a w) none (mx_H h M (upd (upd f 2 0) 3 (-1)) a w) := by
  refine r_s (e := (0, .aload_n 0, 1, 0, 0, 0)) (pc' := 1) rfl rfl rfl ?_
  refine r_s (e := (1, .iconst 0, 1, 0, 0, 0)) (pc' := 2) rfl rfl rfl ?_
  refine r_put (pc' := 5) rfl mx_o rfl rfl (mx_put (k := 2) rfl) ?_
  refine r_s (e := (5, .aload_n 0, 1, 0, 0, 0)) (pc' := 6) rfl rfl rfl ?_
  refine r_s (e := (6, .iconst (-1), 1, 0, 0, 0)) (pc' := 7) rfl rfl rfl ?_
  refine r_put (pc' := 10) rfl mx_o rfl rfl (mx_put (k := 3) rfl) ?_
  exact r_ret (e := (10, .return_, 1, 0, 0, 0)) rfl rfl rfl
  -- Model_beginText: ret 10
theorem c_isScope {k : Int32} : ax_R 1 22 c_Model_isScope (some .boolean) 0 (ax_ent 2 [.ref M, .int k]) [] (mx_H h M f a w) (some (.int (if 0 ≤ k ∧ k ≤ f 13 - 1 then 1 else 0))) (mx_H h M f a w) := by
  refine r_s (e := (0, .iload_n 1, 1, 0, 0, 0)) (pc' := 1) rfl rfl rfl ?_
  refine r_s (e := (1, .iconst 0, 1, 0, 0, 0)) (pc' := 2) rfl rfl rfl ?_
  refine r_s (e := (2, .aload_n 0, 1, 0, 0, 0)) (pc' := 3) rfl rfl rfl ?_
  refine r_get (pc' := 6) rfl mx_o (mx_Fi (k := 13) rfl) rfl ?_
  refine r_s (e := (6, .iconst 1, 1, 0, 0, 0)) (pc' := 7) rfl rfl rfl ?_
  refine r_s (e := (7, .isub, 1, 0, 0, 0)) (pc' := 8) rfl rfl rfl ?_
  -- Model_isScope: call 8
  refine r_call (e := (8, .invokestatic 15, 3, 0, 1, 248)) (as := [.int k, .int 0, .int (f 13 - 1)]) (rest := []) rfl rfl ax_Z_0 rfl rfl rfl (Nat.le_of_ble_eq_true rfl) (Nat.le_of_ble_eq_true rfl) (by decide) (by decide) (c_isIn) ?_
  by_cases q : 0 ≤ k ∧ k ≤ f 13 - 1
  · rw [if_pos q]
    exact r_ret (e := (11, .ireturn, 1, 0, 0, 0)) rfl rfl rfl
    -- Model_isScope: ret 11
  · rw [if_neg q]
    exact r_ret (e := (11, .ireturn, 1, 0, 0, 0)) rfl rfl rfl
    -- Model_isScope: ret 11
theorem c_isGiven {k : Int32} : ax_R 1 22 c_Model_isGiven (some .boolean) 0 (ax_ent 2 [.ref M, .int k]) [] (mx_H h M f a w) (some (.int (if 0 ≤ k ∧ k ≤ f 14 - 1 then 1 else 0))) (mx_H h M f a w) := by
  refine r_s (e := (0, .iload_n 1, 1, 0, 0, 0)) (pc' := 1) rfl rfl rfl ?_
  refine r_s (e := (1, .iconst 0, 1, 0, 0, 0)) (pc' := 2) rfl rfl rfl ?_
  refine r_s (e := (2, .aload_n 0, 1, 0, 0, 0)) (pc' := 3) rfl rfl rfl ?_
  refine r_get (pc' := 6) rfl mx_o (mx_Fi (k := 14) rfl) rfl ?_
  refine r_s (e := (6, .iconst 1, 1, 0, 0, 0)) (pc' := 7) rfl rfl rfl ?_
  refine r_s (e := (7, .isub, 1, 0, 0, 0)) (pc' := 8) rfl rfl rfl ?_
  -- Model_isGiven: call 8
  refine r_call (e := (8, .invokestatic 15, 3, 0, 1, 248)) (as := [.int k, .int 0, .int (f 14 - 1)]) (rest := []) rfl rfl ax_Z_0 rfl rfl rfl (Nat.le_of_ble_eq_true rfl) (Nat.le_of_ble_eq_true rfl) (by decide) (by decide) (c_isIn) ?_
  by_cases q : 0 ≤ k ∧ k ≤ f 14 - 1
  · rw [if_pos q]
    exact r_ret (e := (11, .ireturn, 1, 0, 0, 0)) rfl rfl rfl
    -- Model_isGiven: ret 11
  · rw [if_neg q]
    exact r_ret (e := (11, .ireturn, 1, 0, 0, 0)) rfl rfl rfl
    -- Model_isGiven: ret 11
theorem c_isTold {k : Int32} : ax_R 1 22 c_Model_isTold (some .boolean) 0 (ax_ent 1 [.int k]) [] h (some (.int (if 0 ≤ k ∧ k ≤ 3 then 1 else 0))) h := by
  refine r_s (e := (0, .iload_n 0, 1, 0, 0, 0)) (pc' := 1) rfl rfl rfl ?_
  refine r_s (e := (1, .iconst 0, 1, 0, 0, 0)) (pc' := 2) rfl rfl rfl ?_
  refine r_s (e := (2, .iconst 3, 1, 0, 0, 0)) (pc' := 3) rfl rfl rfl ?_
  -- Model_isTold: call 3
  refine r_call (e := (3, .invokestatic 15, 3, 0, 1, 248)) (as := [.int k, .int 0, .int 3]) (rest := []) rfl rfl ax_Z_0 rfl rfl rfl (Nat.le_of_ble_eq_true rfl) (Nat.le_of_ble_eq_true rfl) (by decide) (by decide) (c_isIn) ?_
  by_cases q : 0 ≤ k ∧ k ≤ 3
  · rw [if_pos q]
    exact r_ret (e := (6, .ireturn, 1, 0, 0, 0)) rfl rfl rfl
    -- Model_isTold: ret 6
  · rw [if_neg q]
    exact r_ret (e := (6, .ireturn, 1, 0, 0, 0)) rfl rfl rfl
    -- Model_isTold: ret 6
theorem c_beginHeap : ax_R 0 0 c_Model_beginHeap none 0 (ax_ent 1 [.ref M]) [] (mx_H h M f a w) none (mx_H h M (upd (upd (upd f 33 0) 34 0) 35 0) a w) := by
  refine r_s (e := (0, .aload_n 0, 1, 0, 0, 0)) (pc' := 1) rfl rfl rfl ?_
  refine r_s (e := (1, .iconst 0, 1, 0, 0, 0)) (pc' := 2) rfl rfl rfl ?_
  refine r_put (pc' := 5) rfl mx_o rfl rfl (mx_put (k := 33) rfl) ?_
  refine r_s (e := (5, .aload_n 0, 1, 0, 0, 0)) (pc' := 6) rfl rfl rfl ?_
  refine r_s (e := (6, .iconst 0, 1, 0, 0, 0)) (pc' := 7) rfl rfl rfl ?_
  refine r_put (pc' := 10) rfl mx_o rfl rfl (mx_put (k := 34) rfl) ?_
  refine r_s (e := (10, .aload_n 0, 1, 0, 0, 0)) (pc' := 11) rfl rfl rfl ?_
  refine r_s (e := (11, .iconst 0, 1, 0, 0, 0)) (pc' := 12) rfl rfl rfl ?_
  refine r_put (pc' := 15) rfl mx_o rfl rfl (mx_put (k := 35) rfl) ?_
  exact r_ret (e := (15, .return_, 1, 0, 0, 0)) rfl rfl rfl
  -- Model_beginHeap: ret 15
theorem c_forget : ax_R 0 0 c_Model_forget none 0 (ax_ent 1 [.ref M]) [] (mx_H h M f a w) none (mx_H h M (upd (upd (upd f 70 0) 63 0) 65 0) a w) := by
  refine r_s (e := (0, .aload_n 0, 1, 0, 0, 0)) (pc' := 1) rfl rfl rfl ?_
  refine r_s (e := (1, .iconst 0, 1, 0, 0, 0)) (pc' := 2) rfl rfl rfl ?_
  refine r_put (pc' := 5) rfl mx_o rfl rfl (mx_put (k := 70) rfl) ?_
  refine r_s (e := (5, .aload_n 0, 1, 0, 0, 0)) (pc' := 6) rfl rfl rfl ?_
  refine r_s (e := (6, .iconst 0, 1, 0, 0, 0)) (pc' := 7) rfl rfl rfl ?_
  refine r_put (pc' := 10) rfl mx_o rfl rfl (mx_put (k := 63) rfl) ?_
  refine r_s (e := (10, .aload_n 0, 1, 0, 0, 0)) (pc' := 11) rfl rfl rfl ?_
  refine r_s (e := (11, .iconst 0, 1, 0, 0, 0)) (pc' := 12) rfl rfl rfl ?_
  refine r_put (pc' := 15) rfl mx_o rfl rfl (mx_put (k := 65) rfl) ?_
  exact r_ret (e := (15, .return_, 1, 0, 0, 0)) rfl rfl rfl
  -- Model_forget: ret 15
theorem c_tie {x t : Int32} {m : Nat} (hx : ax_ix x 40000 = true) (hm : f 35 = nI m) (hm2 : m < 20000) : ax_R 0 0 c_Model_tie none 0 (ax_ent 3 [.ref M, .int x, .int t]) [] (mx_H h M f a w) none (mx_H h M (upd f 35 (nI (m + 1))) (mx_u (mx_u a 30 (upd (a 30) x.toNatClampNeg t)) 32 (upd (a 32) m x)) w) := by
  have hi : ax_ix (f 35) 20000 = true := by rw [hm]; exact ix_nI hm2 (by omega)
  have e : (f 35).toNatClampNeg = m := by rw [hm, nI_clamp (by omega)]
  refine r_s (e := (0, .aload_n 0, 1, 0, 0, 0)) (pc' := 1) rfl rfl rfl ?_
  refine r_get (pc' := 4) rfl mx_o (mx_Fa (k := 30) (r := 18) rfl) rfl ?_
  refine r_s (e := (4, .iload_n 1, 1, 0, 0, 0)) (pc' := 5) rfl rfl rfl ?_
  refine r_s (e := (5, .iload_n 2, 1, 0, 0, 0)) (pc' := 6) rfl rfl rfl ?_
  refine r_iast (pc' := 7) rfl (mx_a (r := 18) (k := 30) rfl (by decide)) hx (by omega) rfl (mx_sta rfl (by decide)) ?_
  refine r_s (e := (7, .aload_n 0, 1, 0, 0, 0)) (pc' := 8) rfl rfl rfl ?_
  refine r_get (pc' := 11) rfl mx_o (mx_Fa (k := 32) (r := 20) rfl) rfl ?_
  refine r_s (e := (11, .aload_n 0, 1, 0, 0, 0)) (pc' := 12) rfl rfl rfl ?_
  refine r_get (pc' := 15) rfl mx_o (mx_Fi (k := 35) rfl) rfl ?_
  refine r_s (e := (15, .iload_n 1, 1, 0, 0, 0)) (pc' := 16) rfl rfl rfl ?_
  refine r_iast (pc' := 17) rfl (mx_a (r := 20) (k := 32) rfl (by decide)) hi (by omega) rfl (mx_sta rfl (by decide)) ?_
  refine r_s (e := (17, .aload_n 0, 1, 0, 0, 0)) (pc' := 18) rfl rfl rfl ?_
  refine r_s (e := (18, .dup, 1, 0, 0, 0)) (pc' := 19) rfl rfl rfl ?_
  refine r_get (pc' := 22) rfl mx_o (mx_Fi (k := 35) rfl) rfl ?_
  refine r_s (e := (22, .iconst 1, 1, 0, 0, 0)) (pc' := 23) rfl rfl rfl ?_
  refine r_s (e := (23, .iadd, 1, 0, 0, 0)) (pc' := 24) rfl rfl rfl ?_
  refine r_put (pc' := 27) rfl mx_o rfl rfl (mx_put (k := 35) rfl) ?_
  -- Model_tie: stop 27
  rw [e, hm, show nI m + Int32.ofInt 1 = nI (m + 1) from (nI_succ m).symm, mx_u_ne (by decide)]
  exact r_ret (e := (27, .return_, 1, 0, 0, 0)) rfl rfl rfl
  -- Model_tie: ret 27
theorem c_unknown {n : Nat} (hn : f 33 = nI n) (hn2 : n < 40000) : ax_R 0 0 c_Model_unknown (some .int) 0 (ax_ent 1 [.ref M]) [] (mx_H h M f a w) (some (.int (nI n))) (mx_H h M (upd f 33 (nI (n + 1))) (mx_u (mx_u a 28 (upd (a 28) n (-1))) 30 (upd (a 30) n (-1))) w) := by
  have hi : ax_ix (f 33) 40000 = true := by rw [hn]; exact ix_nI hn2 (by omega)
  have e : (f 33).toNatClampNeg = n := by rw [hn, nI_clamp (by omega)]
  refine r_s (e := (0, .aload_n 0, 1, 0, 0, 0)) (pc' := 1) rfl rfl rfl ?_
  refine r_get (pc' := 4) rfl mx_o (mx_Fa (k := 28) (r := 16) rfl) rfl ?_
  refine r_s (e := (4, .aload_n 0, 1, 0, 0, 0)) (pc' := 5) rfl rfl rfl ?_
  refine r_get (pc' := 8) rfl mx_o (mx_Fi (k := 33) rfl) rfl ?_
  refine r_s (e := (8, .iconst (-1), 1, 0, 0, 0)) (pc' := 9) rfl rfl rfl ?_
  refine r_iast (pc' := 10) rfl (mx_a (r := 16) (k := 28) rfl (by decide)) hi (by omega) rfl (mx_sta rfl (by decide)) ?_
  refine r_s (e := (10, .aload_n 0, 1, 0, 0, 0)) (pc' := 11) rfl rfl rfl ?_
  refine r_get (pc' := 14) rfl mx_o (mx_Fa (k := 30) (r := 18) rfl) rfl ?_
  refine r_s (e := (14, .aload_n 0, 1, 0, 0, 0)) (pc' := 15) rfl rfl rfl ?_
  refine r_get (pc' := 18) rfl mx_o (mx_Fi (k := 33) rfl) rfl ?_
  refine r_s (e := (18, .iconst (-1), 1, 0, 0, 0)) (pc' := 19) rfl rfl rfl ?_
  refine r_iast (pc' := 20) rfl (mx_a (r := 18) (k := 30) rfl (by decide)) hi (by omega) rfl (mx_sta rfl (by decide)) ?_
  refine r_s (e := (20, .aload_n 0, 1, 0, 0, 0)) (pc' := 21) rfl rfl rfl ?_
  refine r_s (e := (21, .dup, 1, 0, 0, 0)) (pc' := 22) rfl rfl rfl ?_
  refine r_get (pc' := 25) rfl mx_o (mx_Fi (k := 33) rfl) rfl ?_
  refine r_s (e := (25, .iconst 1, 1, 0, 0, 0)) (pc' := 26) rfl rfl rfl ?_
  refine r_s (e := (26, .iadd, 1, 0, 0, 0)) (pc' := 27) rfl rfl rfl ?_
  refine r_put (pc' := 30) rfl mx_o rfl rfl (mx_put (k := 33) rfl) ?_
  -- Model_unknown: stop 30
  rw [e, hn, show nI n + Int32.ofInt 1 = nI (n + 1) from (nI_succ n).symm, mx_u_ne (by decide)]
  refine r_s (e := (30, .aload_n 0, 1, 0, 0, 0)) (pc' := 31) rfl rfl rfl ?_
  refine r_get (pc' := 34) rfl mx_o (mx_Fi (k := 33) rfl) rfl ?_
  refine r_s (e := (34, .iconst 1, 1, 0, 0, 0)) (pc' := 35) rfl rfl rfl ?_
  refine r_s (e := (35, .isub, 1, 0, 0, 0)) (pc' := 36) rfl rfl rfl ?_
  -- Model_unknown: stop 36
  rw [up_eq, show nI (n + 1) - Int32.ofInt 1 = nI n from nI_pred n]
  exact r_ret (e := (36, .ireturn, 1, 0, 0, 0)) rfl rfl rfl
  -- Model_unknown: ret 36
def mx_fill (y : Nat → Int32) (n : Nat) (v : Int32) : Nat → Int32 := fun j => if j < n then v else y j
theorem mx_fill_step {y : Nat → Int32} {n : Nat} {v : Int32} : upd (mx_fill y n v) n v = mx_fill y (n + 1) v := by
  funext j
  unfold upd mx_fill
  by_cases e : j = n
  · subst e; simp
  · have : (j < n) ↔ (j < n + 1) := by omega
    simp [e, this]
theorem mx_fill_0 {y : Nat → Int32} {v : Int32} : mx_fill y 0 v = y := by
  funext j
  simp [mx_fill]
theorem c_newUnknowns_loop : ∀ m i, i + m = 26 → ax_R 0 0 c_Model_newUnknowns none 2 [some (.ref M), some (.int (nI i))] [] (mx_H h M f (mx_u a 36 (mx_fill (a 36) i (-1))) w) none (mx_H h M f (mx_u a 36 (mx_fill (a 36) 26 (-1))) w) := by
  intro m
  induction m with
  | zero =>
    intro i hi
    have e : i = 26 := by omega
    refine r_s (e := (2, .iload_n 1, 1, 0, 0, 0)) (pc' := 3) rfl rfl rfl ?_
    refine r_s (e := (3, .bipush 26, 2, 0, 0, 0)) (pc' := 5) rfl rfl rfl ?_
    refine r_icmp (t := 21) (f := 8) rfl rfl rfl rfl (fun hc => ?_) (fun hc => ?_)
    -- Model_newUnknowns: br 21 8
    · rw [e]
      exact r_ret (e := (21, .return_, 1, 0, 0, 0)) rfl rfl rfl
      -- Model_newUnknowns: ret 21
    · exact absurd (nI_le (a := 26) (b := i) (by omega) (by omega)) hc
  | succ m ih =>
    intro i hi
    have hx : ax_ix (nI i) 26 = true := ix_nI (by omega) (by omega)
    refine r_s (e := (2, .iload_n 1, 1, 0, 0, 0)) (pc' := 3) rfl rfl rfl ?_
    refine r_s (e := (3, .bipush 26, 2, 0, 0, 0)) (pc' := 5) rfl rfl rfl ?_
    refine r_icmp (t := 21) (f := 8) rfl rfl rfl rfl (fun hc => ?_) (fun hc => ?_)
    -- Model_newUnknowns: br 21 8
    · exact absurd hc (nI_ge (a := i) (b := 26) (by omega) (by omega))
    · refine r_s (e := (8, .aload_n 0, 1, 0, 0, 0)) (pc' := 9) rfl rfl rfl ?_
      refine r_get (pc' := 12) rfl mx_o (mx_Fa (k := 36) (r := 21) rfl) rfl ?_
      refine r_s (e := (12, .iload_n 1, 1, 0, 0, 0)) (pc' := 13) rfl rfl rfl ?_
      refine r_s (e := (13, .iconst (-1), 1, 0, 0, 0)) (pc' := 14) rfl rfl rfl ?_
      refine r_iast (pc' := 15) rfl (mx_a (r := 21) (k := 36) rfl (by decide)) hx (by omega) rfl (mx_sta rfl (by decide)) ?_
      refine r_s (e := (15, .iinc 1 1, 3, 0, 0, 0)) (pc' := 18) rfl rfl rfl ?_
      refine r_s (e := (18, .goto (-16), 3, 0, 0, 0)) (pc' := 2) rfl rfl rfl ?_
      -- Model_newUnknowns: stop 2
      have hh := ih (i + 1) (by omega)
      rw [nI_clamp (by omega), mx_u_u, mx_u_eq]
      rw [← mx_fill_step, nI_succ] at hh
      exact hh
theorem c_newUnknowns : ax_R 0 0 c_Model_newUnknowns none 0 (ax_ent 2 [.ref M]) [] (mx_H h M f a w) none (mx_H h M f (mx_u a 36 (mx_fill (a 36) 26 (-1))) w) := by
  refine r_s (e := (0, .iconst 0, 1, 0, 0, 0)) (pc' := 1) rfl rfl rfl ?_
  refine r_s (e := (1, .istore_n 1, 1, 0, 0, 0)) (pc' := 2) rfl rfl rfl ?_
  -- Model_newUnknowns: stop 2
  have := c_newUnknowns_loop (h := h) (M := M) (f := f) (a := a) (w := w) 26 0 (by omega)
  rw [mx_fill_0, mx_u_id] at this
  exact this
end M5
