/-! The reference: small methods over answers. -/
section RB
variable {fr lo : Nat} {cd : List ax_En} {rt : Option FieldType} {pc pc' : Nat} {L : ax_L} {S : List Value} {h : ax_H} {r : Option Value} {h' : ax_H} {a b c : Nat} {cc : Jvm.ClassFile.Cond} {off : Int} {x y : Int32}
theorem r_ift (hf : ax_fd cd pc = some (pc, .ifCond cc off, 3, a, b, c)) (hp : ax_cnd cc x 0 = true) (ht : ax_to pc off = pc') (kk : ax_R fr lo cd rt pc' L S h r h') : ax_R fr lo cd rt pc L (.int x :: S) h r h' := by
  refine r_s hf rfl (show ax_step _ _ _ _ = some (pc', L, S, h) from ?_) kk
  show some (if ax_cnd cc x 0 = true then ax_to pc off else pc + 3, L, S, h) = _
  rw [if_pos hp, ht]
theorem r_iff (hf : ax_fd cd pc = some (pc, .ifCond cc off, 3, a, b, c)) (hp : ax_cnd cc x 0 = false) (hn : pc + 3 = pc') (kk : ax_R fr lo cd rt pc' L S h r h') : ax_R fr lo cd rt pc L (.int x :: S) h r h' := by
  refine r_s hf rfl (show ax_step _ _ _ _ = some (pc', L, S, h) from ?_) kk
  show some (if ax_cnd cc x 0 = true then ax_to pc off else pc + 3, L, S, h) = _
  rw [hp, if_neg (by decide), hn]
theorem r_ict (hf : ax_fd cd pc = some (pc, .if_icmp cc off, 3, a, b, c)) (hp : ax_cnd cc x y = true) (ht : ax_to pc off = pc') (kk : ax_R fr lo cd rt pc' L S h r h') : ax_R fr lo cd rt pc L (.int y :: .int x :: S) h r h' := by
  refine r_s hf rfl (show ax_step _ _ _ _ = some (pc', L, S, h) from ?_) kk
  show some (if ax_cnd cc x y = true then ax_to pc off else pc + 3, L, S, h) = _
  rw [if_pos hp, ht]
theorem r_icf (hf : ax_fd cd pc = some (pc, .if_icmp cc off, 3, a, b, c)) (hp : ax_cnd cc x y = false) (hn : pc + 3 = pc') (kk : ax_R fr lo cd rt pc' L S h r h') : ax_R fr lo cd rt pc L (.int y :: .int x :: S) h r h' := by
  refine r_s hf rfl (show ax_step _ _ _ _ = some (pc', L, S, h) from ?_) kk
  show some (if ax_cnd cc x y = true then ax_to pc off else pc + 3, L, S, h) = _
  rw [hp, if_neg (by decide), hn]
end RB
section M7
variable {h : ax_H} {M : Nat} {f : Nat → Int32} {a : Nat → Nat → Int32} {w : Nat → Nat → Int64}
theorem c_wasFound : ax_R 0 0 c_Model_wasFound (some .boolean) 0 (ax_ent 1 [.ref M]) [] (mx_H h M f a w) (some (.int (if ¬ f 51 = 0 ∧ a 112 0 = 0 then 1 else 0))) (mx_H h M f a w) := by
  have hi : ax_ix (Int32.ofInt 0) 9 = true := rfl
  refine r_s (e := (0, .aload_n 0, 1, 0, 0, 0)) (pc' := 1) rfl rfl rfl ?_
  refine r_get (pc' := 4) rfl mx_o (mx_Fi (k := 51) rfl) rfl ?_
  refine r_if (t := 20) (f := 7) rfl rfl rfl rfl (fun hc => ?_) (fun hc => ?_)
  -- Model_wasFound: br 20 7
  · rw [if_neg (fun q => q.1 hc)]
    refine r_s (e := (20, .iconst 0, 1, 0, 0, 0)) (pc' := 21) rfl rfl rfl ?_
    exact r_ret (e := (21, .ireturn, 1, 0, 0, 0)) rfl rfl rfl
    -- Model_wasFound: ret 21
  · have hc0 := hc
    refine r_s (e := (7, .aload_n 0, 1, 0, 0, 0)) (pc' := 8) rfl rfl rfl ?_
    refine r_get (pc' := 11) rfl mx_o (mx_Fa (k := 112) (r := 73) rfl) rfl ?_
    refine r_s (e := (11, .iconst 0, 1, 0, 0, 0)) (pc' := 12) rfl rfl rfl ?_
    refine r_iald (pc' := 13) rfl (mx_a (r := 73) (k := 112) rfl (by decide)) hi rfl rfl ?_
    refine r_if (t := 20) (f := 16) rfl rfl rfl rfl (fun hc => ?_) (fun hc => ?_)
    -- Model_wasFound: br 20 16
    · rw [if_neg (fun q => hc q.2)]
      refine r_s (e := (20, .iconst 0, 1, 0, 0, 0)) (pc' := 21) rfl rfl rfl ?_
      exact r_ret (e := (21, .ireturn, 1, 0, 0, 0)) rfl rfl rfl
      -- Model_wasFound: ret 21
    · rw [if_pos ⟨hc0, Classical.not_not.mp hc⟩]
      refine r_s (e := (16, .iconst 1, 1, 0, 0, 0)) (pc' := 17) rfl rfl rfl ?_
      refine r_s (e := (17, .goto 4, 3, 0, 0, 0)) (pc' := 21) rfl rfl rfl ?_
      exact r_ret (e := (21, .ireturn, 1, 0, 0, 0)) rfl rfl rfl
      -- Model_wasFound: ret 21
theorem c_isNode {k : Int32} : ax_R 1 30 c_Model_isNode (some .boolean) 0 (ax_ent 2 [.ref M, .int k]) [] (mx_H h M f a w) (some (.int (if (¬ f 51 = 0 ∧ a 112 0 = 0) ∧ 0 ≤ k ∧ k ≤ f 126 - 1 then 1 else 0))) (mx_H h M f a w) := by
  refine r_s (e := (0, .aload_n 0, 1, 0, 0, 0)) (pc' := 1) rfl rfl rfl ?_
  -- Model_isNode: call 1
  refine r_call (e := (1, .invokevirtual 665, 3, 81, 0, 330)) (as := [.ref M]) (rest := []) rfl rfl ax_Z_81 rfl rfl (mx_rc rfl) (Nat.le_of_ble_eq_true rfl) (Nat.le_of_ble_eq_true rfl) (by decide) (by decide) (c_wasFound) ?_
  by_cases q : ¬ f 51 = 0 ∧ a 112 0 = 0
  · rw [if_pos q]
    refine r_iff (pc' := 7) rfl rfl rfl ?_
    refine r_s (e := (7, .iload_n 1, 1, 0, 0, 0)) (pc' := 8) rfl rfl rfl ?_
    refine r_s (e := (8, .iconst 0, 1, 0, 0, 0)) (pc' := 9) rfl rfl rfl ?_
    refine r_s (e := (9, .aload_n 0, 1, 0, 0, 0)) (pc' := 10) rfl rfl rfl ?_
    refine r_get (pc' := 13) rfl mx_o (mx_Fi (k := 126) rfl) rfl ?_
    refine r_s (e := (13, .iconst 1, 1, 0, 0, 0)) (pc' := 14) rfl rfl rfl ?_
    refine r_s (e := (14, .isub, 1, 0, 0, 0)) (pc' := 15) rfl rfl rfl ?_
    -- Model_isNode: call 15
    refine r_call (e := (15, .invokestatic 15, 3, 0, 1, 248)) (as := [.int k, .int 0, .int (f 126 - 1)]) (rest := []) rfl rfl ax_Z_0 rfl rfl rfl (Nat.le_of_ble_eq_true rfl) (Nat.le_of_ble_eq_true rfl) (by decide) (by decide) (c_isIn) ?_
    by_cases q2 : 0 ≤ k ∧ k ≤ f 126 - 1
    · rw [if_pos q2, if_pos ⟨q, q2⟩]
      refine r_iff (pc' := 21) rfl rfl rfl ?_
      refine r_s (e := (21, .iconst 1, 1, 0, 0, 0)) (pc' := 22) rfl rfl rfl ?_
      refine r_s (e := (22, .goto 4, 3, 0, 0, 0)) (pc' := 26) rfl rfl rfl ?_
      exact r_ret (e := (26, .ireturn, 1, 0, 0, 0)) rfl rfl rfl
      -- Model_isNode: ret 26
    · rw [if_neg q2, if_neg (fun g => q2 g.2)]
      refine r_ift (pc' := 25) rfl rfl rfl ?_
      refine r_s (e := (25, .iconst 0, 1, 0, 0, 0)) (pc' := 26) rfl rfl rfl ?_
      exact r_ret (e := (26, .ireturn, 1, 0, 0, 0)) rfl rfl rfl
      -- Model_isNode: ret 26
  · rw [if_neg q, if_neg (fun g => q g.1)]
    refine r_ift (pc' := 25) rfl rfl rfl ?_
    refine r_s (e := (25, .iconst 0, 1, 0, 0, 0)) (pc' := 26) rfl rfl rfl ?_
    exact r_ret (e := (26, .ireturn, 1, 0, 0, 0)) rfl rfl rfl
    -- Model_isNode: ret 26
theorem c_put {v : Int32} {n : Nat} (hn : f 133 = nI n) (hn2 : n < 2000) : ax_R 0 0 c_Model_put none 0 (ax_ent 2 [.ref M, .int v]) [] (mx_H h M f a w) none (mx_H h M (upd f 133 (nI (n + 1))) (mx_u a 132 (upd (a 132) n (vp_nar .byte v.toInt8.toInt32))) w) := by
  have hi : ax_ix (f 133) 2000 = true := by rw [hn]; exact ix_nI hn2 (by omega)
  have e : (f 133).toNatClampNeg = n := by rw [hn, nI_clamp (by omega)]
  refine r_s (e := (0, .aload_n 0, 1, 0, 0, 0)) (pc' := 1) rfl rfl rfl ?_
  refine r_get (pc' := 4) rfl mx_o (mx_Fa (k := 132) (r := 89) rfl) rfl ?_
  refine r_s (e := (4, .aload_n 0, 1, 0, 0, 0)) (pc' := 5) rfl rfl rfl ?_
  refine r_get (pc' := 8) rfl mx_o (mx_Fi (k := 133) rfl) rfl ?_
  refine r_s (e := (8, .iload_n 1, 1, 0, 0, 0)) (pc' := 9) rfl rfl rfl ?_
  refine r_s (e := (9, .i2b, 1, 0, 0, 0)) (pc' := 10) rfl rfl rfl ?_
  refine r_bast (pc' := 11) rfl (mx_a (r := 89) (k := 132) rfl (by decide)) (by decide) hi rfl (mx_sta rfl (by decide)) ?_
  refine r_s (e := (11, .aload_n 0, 1, 0, 0, 0)) (pc' := 12) rfl rfl rfl ?_
  refine r_s (e := (12, .dup, 1, 0, 0, 0)) (pc' := 13) rfl rfl rfl ?_
  refine r_get (pc' := 16) rfl mx_o (mx_Fi (k := 133) rfl) rfl ?_
  refine r_s (e := (16, .iconst 1, 1, 0, 0, 0)) (pc' := 17) rfl rfl rfl ?_
  refine r_s (e := (17, .iadd, 1, 0, 0, 0)) (pc' := 18) rfl rfl rfl ?_
  refine r_put (pc' := 21) rfl mx_o rfl rfl (mx_put (k := 133) rfl) ?_
  -- Model_put: stop 21
  rw [e, hn, show nI n + Int32.ofInt 1 = nI (n + 1) from (nI_succ n).symm]
  exact r_ret (e := (21, .return_, 1, 0, 0, 0)) rfl rfl rfl
  -- Model_put: ret 21
theorem c_octet {k : Int32} {n : Nat} (hn : f 133 = nI n) (hn2 : n ≤ 2000) : ax_R 1 30 c_Model_octet (some .int) 0 (ax_ent 2 [.ref M, .int k]) [] (mx_H h M f a w) (some (.int (if 0 ≤ k ∧ k ≤ f 133 - 1 then a 132 k.toNatClampNeg else -1))) (mx_H h M f a w) := by
  refine r_s (e := (0, .iload_n 1, 1, 0, 0, 0)) (pc' := 1) rfl rfl rfl ?_
  refine r_s (e := (1, .iconst 0, 1, 0, 0, 0)) (pc' := 2) rfl rfl rfl ?_
  refine r_s (e := (2, .aload_n 0, 1, 0, 0, 0)) (pc' := 3) rfl rfl rfl ?_
  refine r_get (pc' := 6) rfl mx_o (mx_Fi (k := 133) rfl) rfl ?_
  refine r_s (e := (6, .iconst 1, 1, 0, 0, 0)) (pc' := 7) rfl rfl rfl ?_
  refine r_s (e := (7, .isub, 1, 0, 0, 0)) (pc' := 8) rfl rfl rfl ?_
  -- Model_octet: call 8
  refine r_call (e := (8, .invokestatic 15, 3, 0, 1, 248)) (as := [.int k, .int 0, .int (f 133 - 1)]) (rest := []) rfl rfl ax_Z_0 rfl rfl rfl (Nat.le_of_ble_eq_true rfl) (Nat.le_of_ble_eq_true rfl) (by decide) (by decide) (c_isIn) ?_
  by_cases q : 0 ≤ k ∧ k ≤ f 133 - 1
  · have hi : ax_ix k 2000 = true := by
      obtain ⟨j, hj, rfl⟩ := nI_of (Int32.not_lt.mpr q.1)
      have q2 := q.2
      rw [hn] at q2
      cases n with
      | zero =>
        exact absurd (Int32.le_trans q.1 q2) (by decide)
      | succ n =>
        rw [nI_pred n] at q2
        have := (nI_leI hj (show n < 2 ^ 31 by omega)).mp q2
        exact ix_nI (by omega) (by omega)
    rw [if_pos q, if_pos q]
    refine r_iff (pc' := 14) rfl rfl rfl ?_
    refine r_s (e := (14, .aload_n 0, 1, 0, 0, 0)) (pc' := 15) rfl rfl rfl ?_
    refine r_get (pc' := 18) rfl mx_o (mx_Fa (k := 132) (r := 89) rfl) rfl ?_
    refine r_s (e := (18, .iload_n 1, 1, 0, 0, 0)) (pc' := 19) rfl rfl rfl ?_
    refine r_bald (pc' := 20) rfl (mx_a (r := 89) (k := 132) rfl (by decide)) (by decide) hi rfl rfl ?_
    refine r_s (e := (20, .goto 4, 3, 0, 0, 0)) (pc' := 24) rfl rfl rfl ?_
    exact r_ret (e := (24, .ireturn, 1, 0, 0, 0)) rfl rfl rfl
    -- Model_octet: ret 24
  · rw [if_neg q, if_neg q]
    refine r_ift (pc' := 23) rfl rfl rfl ?_
    refine r_s (e := (23, .iconst (-1), 1, 0, 0, 0)) (pc' := 24) rfl rfl rfl ?_
    exact r_ret (e := (24, .ireturn, 1, 0, 0, 0)) rfl rfl rfl
    -- Model_octet: ret 24
theorem c_asked {k : Int32} : ax_R 1 30 c_Model_asked (some .int) 0 (ax_ent 2 [.ref M, .int k]) [] (mx_H h M f a w) (some (.int (if ¬ f 51 = 0 ∧ 0 ≤ k ∧ k ≤ 8 then a 112 k.toNatClampNeg else -1))) (mx_H h M f a w) := by
  refine r_s (e := (0, .aload_n 0, 1, 0, 0, 0)) (pc' := 1) rfl rfl rfl ?_
  refine r_get (pc' := 4) rfl mx_o (mx_Fi (k := 51) rfl) rfl ?_
  refine r_if (t := 26) (f := 7) rfl rfl rfl rfl (fun hc => ?_) (fun hc => ?_)
  -- Model_asked: br 26 7
  · rw [if_neg (fun q => q.1 hc)]
    refine r_s (e := (26, .iconst (-1), 1, 0, 0, 0)) (pc' := 27) rfl rfl rfl ?_
    exact r_ret (e := (27, .ireturn, 1, 0, 0, 0)) rfl rfl rfl
    -- Model_asked: ret 27
  · have hc0 := hc
    refine r_s (e := (7, .iload_n 1, 1, 0, 0, 0)) (pc' := 8) rfl rfl rfl ?_
    refine r_s (e := (8, .iconst 0, 1, 0, 0, 0)) (pc' := 9) rfl rfl rfl ?_
    refine r_s (e := (9, .bipush 8, 2, 0, 0, 0)) (pc' := 11) rfl rfl rfl ?_
    -- Model_asked: call 11
    refine r_call (e := (11, .invokestatic 15, 3, 0, 1, 248)) (as := [.int k, .int 0, .int 8]) (rest := []) rfl rfl ax_Z_0 rfl rfl rfl (Nat.le_of_ble_eq_true rfl) (Nat.le_of_ble_eq_true rfl) (by decide) (by decide) (c_isIn) ?_
    by_cases q : 0 ≤ k ∧ k ≤ 8
    · have hi : ax_ix k 9 = true := by
        obtain ⟨j, hj, rfl⟩ := nI_of (Int32.not_lt.mpr q.1)
        have := (nI_leI hj (show 8 < 2 ^ 31 by omega)).mp q.2
        exact ix_nI (by omega) (by omega)
      rw [if_pos q, if_pos ⟨hc0, q⟩]
      refine r_iff (pc' := 17) rfl rfl rfl ?_
      refine r_s (e := (17, .aload_n 0, 1, 0, 0, 0)) (pc' := 18) rfl rfl rfl ?_
      refine r_get (pc' := 21) rfl mx_o (mx_Fa (k := 112) (r := 73) rfl) rfl ?_
      refine r_s (e := (21, .iload_n 1, 1, 0, 0, 0)) (pc' := 22) rfl rfl rfl ?_
      refine r_iald (pc' := 23) rfl (mx_a (r := 73) (k := 112) rfl (by decide)) hi rfl rfl ?_
      refine r_s (e := (23, .goto 4, 3, 0, 0, 0)) (pc' := 27) rfl rfl rfl ?_
      exact r_ret (e := (27, .ireturn, 1, 0, 0, 0)) rfl rfl rfl
      -- Model_asked: ret 27
    · rw [if_neg q, if_neg (fun g => q g.2)]
      refine r_ift (pc' := 26) rfl rfl rfl ?_
      refine r_s (e := (26, .iconst (-1), 1, 0, 0, 0)) (pc' := 27) rfl rfl rfl ?_
      exact r_ret (e := (27, .ireturn, 1, 0, 0, 0)) rfl rfl rfl
      -- Model_asked: ret 27
end M7
