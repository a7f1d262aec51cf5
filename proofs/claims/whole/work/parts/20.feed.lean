/-! The reference: feeding, ending. -/
section M4
variable {h : ax_H} {M : Nat} {f : Nat → Int32} {a : Nat → Nat → Int32} {w : Nat → Nat → Int64}
theorem up_up {g : Nat → Int32} {k : Nat} {x y : Int32} : upd (upd g k x) k y = upd g k y := by
  funext j
  by_cases e : j = k <;> simp [upd, e]
theorem up_eq {g : Nat → Int32} {k : Nat} {x : Int32} : upd g k x k = x := by simp [upd]
theorem up_ne {g : Nat → Int32} {k j : Nat} {x : Int32} (e : ¬ j = k) : upd g k x j = g j := by simp [upd, e]
def mx_b (v k : Int32) : Int32 := vp_nar .byte (v >>> (k &&& 31)).toInt8.toInt32
theorem c_four_body {v k : Int32} {p : Nat} {r : Option Value} {h' : ax_H} (hk : ¬ k < 0) (hp : f 1 = nI p) (hp8 : p < 800) (kk : ax_R 0 0 c_Model_four none 3 [some (.ref M), some (.int v), some (.int (k + Int32.ofInt (-8)))] [] (mx_H h M (upd f 1 (nI (p + 1))) (mx_u a 0 (upd (a 0) p (mx_b v k))) w) r h') : ax_R 0 0 c_Model_four none 3 [some (.ref M), some (.int v), some (.int k)] [] (mx_H h M f a w) r h' := by
  have hi : ax_ix (f 1) 800 = true := by rw [hp]; exact ix_nI hp8 (by omega)
  refine r_s (e := (3, .iload_n 2, 1, 0, 0, 0)) (pc' := 4) rfl rfl rfl ?_
  refine r_if (t := 36) (f := 7) rfl rfl rfl rfl (fun hc => ?_) (fun hc => ?_)
  -- Model_four: br 36 7
  · exact absurd hc hk
  · refine r_s (e := (7, .aload_n 0, 1, 0, 0, 0)) (pc' := 8) rfl rfl rfl ?_
    refine r_get (pc' := 11) rfl mx_o (mx_Fa (k := 0) (r := 0) rfl) rfl ?_
    refine r_s (e := (11, .aload_n 0, 1, 0, 0, 0)) (pc' := 12) rfl rfl rfl ?_
    refine r_get (pc' := 15) rfl mx_o (mx_Fi (k := 1) rfl) rfl ?_
    refine r_s (e := (15, .iload_n 1, 1, 0, 0, 0)) (pc' := 16) rfl rfl rfl ?_
    refine r_s (e := (16, .iload_n 2, 1, 0, 0, 0)) (pc' := 17) rfl rfl rfl ?_
    refine r_s (e := (17, .ishr, 1, 0, 0, 0)) (pc' := 18) rfl rfl rfl ?_
    refine r_s (e := (18, .i2b, 1, 0, 0, 0)) (pc' := 19) rfl rfl rfl ?_
    refine r_bast (pc' := 20) rfl (mx_a (r := 0) (k := 0) rfl (by decide)) (by decide) hi rfl (mx_sta rfl (by decide)) ?_
    refine r_s (e := (20, .aload_n 0, 1, 0, 0, 0)) (pc' := 21) rfl rfl rfl ?_
    refine r_s (e := (21, .dup, 1, 0, 0, 0)) (pc' := 22) rfl rfl rfl ?_
    refine r_get (pc' := 25) rfl mx_o (mx_Fi (k := 1) rfl) rfl ?_
    refine r_s (e := (25, .iconst 1, 1, 0, 0, 0)) (pc' := 26) rfl rfl rfl ?_
    refine r_s (e := (26, .iadd, 1, 0, 0, 0)) (pc' := 27) rfl rfl rfl ?_
    refine r_put (pc' := 30) rfl mx_o rfl rfl (mx_put (k := 1) rfl) ?_
    refine r_s (e := (30, .iinc 2 (-8), 3, 0, 0, 0)) (pc' := 33) rfl rfl rfl ?_
    refine r_s (e := (33, .goto (-30), 3, 0, 0, 0)) (pc' := 3) rfl rfl rfl ?_
    -- Model_four: stop 3
    have e : (f 1).toNatClampNeg = p := by rw [hp, nI_clamp (by omega)]
    rw [e, hp, show nI p + Int32.ofInt 1 = nI (p + 1) from (nI_succ p).symm]
    exact kk
def mx_4 (x : Nat → Int32) (p : Nat) (v : Int32) : Nat → Int32 := upd (upd (upd (upd x p (mx_b v 24)) (p + 1) (mx_b v 16)) (p + 2) (mx_b v 8)) (p + 3) (mx_b v 0)
theorem c_four {v : Int32} {p : Nat} (hp : f 1 = nI p) (hp8 : p + 4 ≤ 800) : ax_R 0 0 c_Model_four none 0 (ax_ent 3 [.ref M, .int v]) [] (mx_H h M f a w) none (mx_H h M (upd f 1 (nI (p + 4))) (mx_u a 0 (mx_4 (a 0) p v)) w) := by
  refine r_s (e := (0, .bipush 24, 2, 0, 0, 0)) (pc' := 2) rfl rfl rfl ?_
  refine r_s (e := (2, .istore_n 2, 1, 0, 0, 0)) (pc' := 3) rfl rfl rfl ?_
  -- Model_four: stop 3
  refine c_four_body (p := p) (by decide) hp (by omega) ?_
  refine c_four_body (p := p + 1) (by decide) up_eq (by omega) ?_
  refine c_four_body (p := p + 2) (by decide) up_eq (by omega) ?_
  refine c_four_body (p := p + 3) (by decide) up_eq (by omega) ?_
  rw [up_up, up_up, up_up, mx_u_u, mx_u_u, mx_u_u, mx_u_eq, mx_u_eq, mx_u_eq]
  generalize hk : (Int8.ofInt 24).toInt32 + Int32.ofInt (-8) + Int32.ofInt (-8) + Int32.ofInt (-8) + Int32.ofInt (-8) = k
  have hk0 : k < 0 := by rw [← hk]; decide +kernel
  refine r_s (e := (3, .iload_n 2, 1, 0, 0, 0)) (pc' := 4) rfl rfl rfl ?_
  refine r_if (t := 36) (f := 7) rfl rfl rfl rfl (fun hc => ?_) (fun hc => ?_)
  -- Model_four: br 36 7
  · exact r_ret (e := (36, .return_, 1, 0, 0, 0)) rfl rfl rfl
    -- Model_four: ret 36
  · exact absurd hk0 hc
def mx_20 (x : Nat → Int32) (p : Nat) (v1 v2 v3 v4 v5 : Int32) : Nat → Int32 := mx_4 (mx_4 (mx_4 (mx_4 (mx_4 x p v1) (p + 4) v2) (p + 8) v3) (p + 12) v4) (p + 16) v5
theorem c_feed {v1 v2 v3 v4 v5 : Int32} {p : Nat} (hp : f 1 = nI p) (hp8 : p ≤ 800) : ax_R 1 30 c_Model_feed (some .int) 0 (ax_ent 6 [.ref M, .int v1, .int v2, .int v3, .int v4, .int v5]) [] (mx_H h M f a w) (some (.int (if p + 20 ≤ 800 then nI (p + 20) else -1))) (mx_H h M (if p + 20 ≤ 800 then upd f 1 (nI (p + 20)) else f) (if p + 20 ≤ 800 then mx_u a 0 (mx_20 (a 0) p v1 v2 v3 v4 v5) else a) w) := by
  have e20 : f 1 + (Int8.ofInt 20).toInt32 = nI (p + 20) := by rw [hp]; exact nI_add p 20
  refine r_s (e := (0, .aload_n 0, 1, 0, 0, 0)) (pc' := 1) rfl rfl rfl ?_
  refine r_get (pc' := 4) rfl mx_o (mx_Fi (k := 1) rfl) rfl ?_
  refine r_s (e := (4, .bipush 20, 2, 0, 0, 0)) (pc' := 6) rfl rfl rfl ?_
  refine r_s (e := (6, .iadd, 1, 0, 0, 0)) (pc' := 7) rfl rfl rfl ?_
  -- Model_feed: stop 7
  rw [e20]
  refine r_s (e := (7, .sipush 800, 3, 0, 0, 0)) (pc' := 10) rfl rfl rfl ?_
  refine r_icmp (t := 15) (f := 13) rfl rfl rfl rfl (fun hc => ?_) (fun hc => ?_)
  -- Model_feed: br 15 13
  · have q : p + 20 ≤ 800 := (nI_leI (a := p + 20) (b := 800) (by omega) (by omega)).mp hc
    rw [if_pos q, if_pos q, if_pos q]
    refine r_s (e := (15, .aload_n 0, 1, 0, 0, 0)) (pc' := 16) rfl rfl rfl ?_
    refine r_s (e := (16, .iload_n 1, 1, 0, 0, 0)) (pc' := 17) rfl rfl rfl ?_
    -- Model_feed: call 17
    refine r_call (e := (17, .invokevirtual 11, 3, 6, 0, 246)) (as := [.ref M, .int v1]) (rest := []) rfl rfl ax_Z_6 rfl rfl (mx_rc rfl) (Nat.le_of_ble_eq_true rfl) (Nat.le_of_ble_eq_true rfl) (by decide) (by decide) (c_four (p := p) hp (by omega)) ?_
    refine r_s (e := (20, .aload_n 0, 1, 0, 0, 0)) (pc' := 21) rfl rfl rfl ?_
    refine r_s (e := (21, .iload_n 2, 1, 0, 0, 0)) (pc' := 22) rfl rfl rfl ?_
    -- Model_feed: call 22
    refine r_call (e := (22, .invokevirtual 11, 3, 6, 0, 246)) (as := [.ref M, .int v2]) (rest := []) rfl rfl ax_Z_6 rfl rfl (mx_rc rfl) (Nat.le_of_ble_eq_true rfl) (Nat.le_of_ble_eq_true rfl) (by decide) (by decide) (c_four (p := p + 4) up_eq (by omega)) ?_
    refine r_s (e := (25, .aload_n 0, 1, 0, 0, 0)) (pc' := 26) rfl rfl rfl ?_
    refine r_s (e := (26, .iload_n 3, 1, 0, 0, 0)) (pc' := 27) rfl rfl rfl ?_
    -- Model_feed: call 27
    refine r_call (e := (27, .invokevirtual 11, 3, 6, 0, 246)) (as := [.ref M, .int v3]) (rest := []) rfl rfl ax_Z_6 rfl rfl (mx_rc rfl) (Nat.le_of_ble_eq_true rfl) (Nat.le_of_ble_eq_true rfl) (by decide) (by decide) (c_four (p := p + 8) up_eq (by omega)) ?_
    refine r_s (e := (30, .aload_n 0, 1, 0, 0, 0)) (pc' := 31) rfl rfl rfl ?_
    refine r_s (e := (31, .iload 4, 2, 0, 0, 0)) (pc' := 33) rfl rfl rfl ?_
    -- Model_feed: call 33
    refine r_call (e := (33, .invokevirtual 11, 3, 6, 0, 246)) (as := [.ref M, .int v4]) (rest := []) rfl rfl ax_Z_6 rfl rfl (mx_rc rfl) (Nat.le_of_ble_eq_true rfl) (Nat.le_of_ble_eq_true rfl) (by decide) (by decide) (c_four (p := p + 12) up_eq (by omega)) ?_
    refine r_s (e := (36, .aload_n 0, 1, 0, 0, 0)) (pc' := 37) rfl rfl rfl ?_
    refine r_s (e := (37, .iload 5, 2, 0, 0, 0)) (pc' := 39) rfl rfl rfl ?_
    -- Model_feed: call 39
    refine r_call (e := (39, .invokevirtual 11, 3, 6, 0, 246)) (as := [.ref M, .int v5]) (rest := []) rfl rfl ax_Z_6 rfl rfl (mx_rc rfl) (Nat.le_of_ble_eq_true rfl) (Nat.le_of_ble_eq_true rfl) (by decide) (by decide) (c_four (p := p + 16) up_eq (by omega)) ?_
    rw [up_up, up_up, up_up, up_up, mx_u_u, mx_u_u, mx_u_u, mx_u_u, mx_u_eq, mx_u_eq, mx_u_eq, mx_u_eq]
    refine r_s (e := (42, .aload_n 0, 1, 0, 0, 0)) (pc' := 43) rfl rfl rfl ?_
    refine r_get (pc' := 46) rfl mx_o (mx_Fi (k := 1) rfl) rfl ?_
    exact r_ret (e := (46, .ireturn, 1, 0, 0, 0)) rfl rfl rfl
    -- Model_feed: ret 46
  · have q : ¬ p + 20 ≤ 800 := fun q => hc ((nI_leI (a := p + 20) (b := 800) (by omega) (by omega)).mpr q)
    rw [if_neg q, if_neg q, if_neg q]
    refine r_s (e := (13, .iconst (-1), 1, 0, 0, 0)) (pc' := 14) rfl rfl rfl ?_
    exact r_ret (e := (14, .ireturn, 1, 0, 0, 0)) rfl rfl rfl
    -- Model_feed: ret 14
theorem c_end {n : Int32} : ax_R 1 30 c_Model_end (some .int) 0 (ax_ent 2 [.ref M, .int n]) [] (mx_H h M f a w) (some (.int (if 0 ≤ n ∧ n ≤ f 1 then n else -1))) (mx_H h M (if 0 ≤ n ∧ n ≤ f 1 then upd f 1 n else f) a w) := by
  refine r_s (e := (0, .iload_n 1, 1, 0, 0, 0)) (pc' := 1) rfl rfl rfl ?_
  refine r_s (e := (1, .iconst 0, 1, 0, 0, 0)) (pc' := 2) rfl rfl rfl ?_
  refine r_s (e := (2, .aload_n 0, 1, 0, 0, 0)) (pc' := 3) rfl rfl rfl ?_
  refine r_get (pc' := 6) rfl mx_o (mx_Fi (k := 1) rfl) rfl ?_
  -- Model_end: call 6
  refine r_call (e := (6, .invokestatic 15, 3, 0, 1, 248)) (as := [.int n, .int (Int32.ofInt 0), .int (f 1)]) (rest := []) rfl rfl ax_Z_0 rfl rfl rfl (Nat.le_of_ble_eq_true rfl) (Nat.le_of_ble_eq_true rfl) (by decide) (by decide) (c_isIn) ?_
  refine r_if (t := 14) (f := 12) rfl rfl rfl rfl (fun hc => ?_) (fun hc => ?_)
  -- Model_end: br 14 12
  · have q : 0 ≤ n ∧ n ≤ f 1 := by
      by_cases q : Int32.ofInt 0 ≤ n ∧ n ≤ f 1
      · exact q
      · rw [if_neg q] at hc; exact absurd rfl hc
    rw [if_pos q, if_pos q]
    refine r_s (e := (14, .aload_n 0, 1, 0, 0, 0)) (pc' := 15) rfl rfl rfl ?_
    refine r_s (e := (15, .iload_n 1, 1, 0, 0, 0)) (pc' := 16) rfl rfl rfl ?_
    refine r_put (pc' := 19) rfl mx_o rfl rfl (mx_put (k := 1) rfl) ?_
    refine r_s (e := (19, .iload_n 1, 1, 0, 0, 0)) (pc' := 20) rfl rfl rfl ?_
    exact r_ret (e := (20, .ireturn, 1, 0, 0, 0)) rfl rfl rfl
    -- Model_end: ret 20
  · have q : ¬ (0 ≤ n ∧ n ≤ f 1) := by
      intro q
      rw [if_pos (show Int32.ofInt 0 ≤ n ∧ n ≤ f 1 from q)] at hc
      exact hc (by decide)
    rw [if_neg q, if_neg q]
    refine r_s (e := (12, .iconst (-1), 1, 0, 0, 0)) (pc' := 13) rfl rfl rfl ?_
    exact r_ret (e := (13, .ireturn, 1, 0, 0, 0)) rfl rfl rfl
    -- Model_end: ret 13
end M4
