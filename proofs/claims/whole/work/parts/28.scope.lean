/-! The reference: a scope is opened. -/
section MC
variable {h : ax_H} {M : Nat} {f : Nat → Int32} {a : Nat → Nat → Int32} {w : Nat → Nat → Int64}
def mx_here (f : Nat → Int32) (a : Nat → Nat → Int32) : Int32 := if f 2 < f 1 then a 0 (f 2).toNatClampNeg &&& 255 else -1
theorem c_here2 {p n : Nat} (hp : f 2 = nI p) (hn : f 1 = nI n) (hn8 : n ≤ 800) (hp8 : p ≤ 800) : ax_R 0 0 c_Model_here (some .int) 0 (ax_ent 1 [.ref M]) [] (mx_H h M f a w) (some (.int (mx_here f a))) (mx_H h M f a w) := by
  have e : mx_here f a = if p < n then a 0 p &&& 255 else -1 := by
    unfold mx_here
    rw [hp, hn, nI_clamp (by omega)]
    by_cases q : p < n
    · rw [if_pos q, if_pos (nI_lt q (by omega))]
    · rw [if_neg q, if_neg (nI_nlt (by omega) (by omega))]
  rw [e]
  exact c_here hp hn hn8 hp8
/-- what openScope leaves: fields and arrays -/
def mx_osF (f : Nat → Int32) : Nat → Int32 := upd (upd (upd f 2 (f 2 + 1)) 23 (f 23 + 1)) 25 (f 25 + 1)
def mx_osA (f : Nat → Int32) (a : Nat → Nat → Int32) (s d : Nat) : Nat → Nat → Int32 := mx_u (mx_u a 17 (upd (a 17) s (if d = 0 then -1 else a 22 (d - 1)))) 22 (upd (a 22) d (nI s))
theorem c_openScope {p n s d : Nat} (hp : f 2 = nI p) (hn : f 1 = nI n) (hn8 : n ≤ 800) (hp8 : p ≤ 800) (hs : f 23 = nI s) (hs8 : s ≤ 8) (hd : f 25 = nI d) (hd8 : d ≤ 6) : ax_R 1 30 c_Model_openScope (some .boolean) 0 (ax_ent 1 [.ref M]) [] (mx_H h M f a w) (some (.int (if mx_here f a = 123 ∧ s < 8 ∧ d ≤ 5 then 1 else 0))) (mx_H h M (if mx_here f a = 123 ∧ s < 8 ∧ d ≤ 5 then mx_osF f else upd f 3 (f 2)) (if mx_here f a = 123 ∧ s < 8 ∧ d ≤ 5 then mx_osA f a s d else a) w) := by
  have hfail : ax_R 1 30 c_Model_openScope (some .boolean) 26 (ax_ent 1 [.ref M]) [] (mx_H h M f a w) (some (.int 0)) (mx_H h M (upd f 3 (f 2)) a w) := by
    refine r_s (e := (26, .aload_n 0, 1, 0, 0, 0)) (pc' := 27) rfl rfl rfl ?_
    refine r_s (e := (27, .aload_n 0, 1, 0, 0, 0)) (pc' := 28) rfl rfl rfl ?_
    refine r_get (pc' := 31) rfl mx_o (mx_Fi (k := 2) rfl) rfl ?_
    -- Model_openScope: call 31
    refine r_call (e := (31, .invokevirtual 29, 3, 10, 0, 254)) (as := [.ref M, .int (f 2)]) (rest := []) rfl rfl ax_Z_10 rfl rfl (mx_rc rfl) (Nat.le_of_ble_eq_true rfl) (Nat.le_of_ble_eq_true rfl) (by decide) (by decide) (c_fails) ?_
    exact r_ret (e := (34, .ireturn, 1, 0, 0, 0)) rfl rfl rfl
    -- Model_openScope: ret 34
  refine r_s (e := (0, .aload_n 0, 1, 0, 0, 0)) (pc' := 1) rfl rfl rfl ?_
  -- Model_openScope: call 1
  refine r_call (e := (1, .invokevirtual 25, 3, 9, 0, 253)) (as := [.ref M]) (rest := []) rfl rfl ax_Z_9 rfl rfl (mx_rc rfl) (Nat.le_of_ble_eq_true rfl) (Nat.le_of_ble_eq_true rfl) (by decide) (by decide) (c_here2 hp hn hn8 hp8) ?_
  refine r_s (e := (4, .bipush 123, 2, 0, 0, 0)) (pc' := 6) rfl rfl rfl ?_
  -- Model_openScope: stop 6
  by_cases q1 : mx_here f a = 123
  · refine r_icf (pc' := 9) rfl (decide_eq_false (fun g => g q1)) rfl ?_
    refine r_s (e := (9, .aload_n 0, 1, 0, 0, 0)) (pc' := 10) rfl rfl rfl ?_
    refine r_get (pc' := 13) rfl mx_o (mx_Fi (k := 23) rfl) rfl ?_
    refine r_s (e := (13, .bipush 8, 2, 0, 0, 0)) (pc' := 15) rfl rfl rfl ?_
    -- Model_openScope: stop 15
    by_cases q2 : s = 8
    · rw [if_neg (fun g => by omega), if_neg (fun g => by omega), if_neg (fun g => by omega)]
      have q2' : f 23 = 8 := by rw [hs, q2]; rfl
      refine r_ict (pc' := 26) rfl (decide_eq_true (q2')) rfl ?_
      -- Model_openScope: stop 26
      exact hfail
    · have q2' : ¬ f 23 = 8 := by rw [hs]; exact fun g => q2 ((nI_eq (a := s) (b := 8) (by omega) (by omega)).mp g)
      refine r_icf (pc' := 18) rfl (decide_eq_false (q2')) rfl ?_
      refine r_s (e := (18, .aload_n 0, 1, 0, 0, 0)) (pc' := 19) rfl rfl rfl ?_
      refine r_get (pc' := 22) rfl mx_o (mx_Fi (k := 25) rfl) rfl ?_
      refine r_s (e := (22, .iconst 5, 1, 0, 0, 0)) (pc' := 23) rfl rfl rfl ?_
      -- Model_openScope: stop 23
      by_cases q3 : d ≤ 5
      · rw [if_pos ⟨q1, by omega, q3⟩, if_pos ⟨q1, by omega, q3⟩, if_pos ⟨q1, by omega, q3⟩]
        have q3' : f 25 ≤ 5 := by rw [hd]; exact nI_le (a := d) (b := 5) q3 (by omega)
        refine r_ict (pc' := 35) rfl (decide_eq_true (q3')) rfl ?_
        refine r_s (e := (35, .aload_n 0, 1, 0, 0, 0)) (pc' := 36) rfl rfl rfl ?_
        refine r_s (e := (36, .dup, 1, 0, 0, 0)) (pc' := 37) rfl rfl rfl ?_
        refine r_get (pc' := 40) rfl mx_o (mx_Fi (k := 2) rfl) rfl ?_
        refine r_s (e := (40, .iconst 1, 1, 0, 0, 0)) (pc' := 41) rfl rfl rfl ?_
        refine r_s (e := (41, .iadd, 1, 0, 0, 0)) (pc' := 42) rfl rfl rfl ?_
        refine r_put (pc' := 45) rfl mx_o rfl rfl (mx_put (k := 2) rfl) ?_
        refine r_s (e := (45, .aload_n 0, 1, 0, 0, 0)) (pc' := 46) rfl rfl rfl ?_
        refine r_get (pc' := 49) rfl mx_o (mx_Fa (k := 17) (r := 8) rfl) rfl ?_
        refine r_s (e := (49, .aload_n 0, 1, 0, 0, 0)) (pc' := 50) rfl rfl rfl ?_
        refine r_get (pc' := 53) rfl mx_o (mx_Fi (k := 23) rfl) rfl ?_
        refine r_s (e := (53, .aload_n 0, 1, 0, 0, 0)) (pc' := 54) rfl rfl rfl ?_
        refine r_get (pc' := 57) rfl mx_o (mx_Fi (k := 25) rfl) rfl ?_
        -- Model_openScope: stop 57
        have hi : ax_ix (f 23) 8 = true := by rw [hs]; exact ix_nI (by omega) (by omega)
        have hj : ax_ix (f 25) 6 = true := by rw [hd]; exact ix_nI (by omega) (by omega)
        have es : (f 23).toNatClampNeg = s := by rw [hs, nI_clamp (by omega)]
        have ed : (f 25).toNatClampNeg = d := by rw [hd, nI_clamp (by omega)]
        have tail : ∀ v : Int32, v = (if d = 0 then -1 else a 22 (d - 1)) → ax_R 1 30 c_Model_openScope (some .boolean) 75 (ax_ent 1 [.ref M]) [.int v, .int (f 23), .ref (M + 1 + 8)] (mx_H h M (upd f 2 (f 2 + 1)) a w) (some (.int 1)) (mx_H h M (mx_osF f) (mx_osA f a s d) w) := by
          intro v ev
          refine r_iast (pc' := 76) rfl (mx_a (r := 8) (k := 17) rfl (by decide)) hi (by omega) rfl (mx_sta rfl (by decide)) ?_
          refine r_s (e := (76, .aload_n 0, 1, 0, 0, 0)) (pc' := 77) rfl rfl rfl ?_
          refine r_get (pc' := 80) rfl mx_o (mx_Fa (k := 22) (r := 13) rfl) rfl ?_
          refine r_s (e := (80, .aload_n 0, 1, 0, 0, 0)) (pc' := 81) rfl rfl rfl ?_
          refine r_get (pc' := 84) rfl mx_o (mx_Fi (k := 25) rfl) rfl ?_
          refine r_s (e := (84, .aload_n 0, 1, 0, 0, 0)) (pc' := 85) rfl rfl rfl ?_
          refine r_get (pc' := 88) rfl mx_o (mx_Fi (k := 23) rfl) rfl ?_
          refine r_iast (pc' := 89) rfl (mx_a (r := 13) (k := 22) rfl (by decide)) hj (by omega) rfl (mx_sta rfl (by decide)) ?_
          refine r_s (e := (89, .aload_n 0, 1, 0, 0, 0)) (pc' := 90) rfl rfl rfl ?_
          refine r_s (e := (90, .dup, 1, 0, 0, 0)) (pc' := 91) rfl rfl rfl ?_
          refine r_get (pc' := 94) rfl mx_o (mx_Fi (k := 23) rfl) rfl ?_
          refine r_s (e := (94, .iconst 1, 1, 0, 0, 0)) (pc' := 95) rfl rfl rfl ?_
          refine r_s (e := (95, .iadd, 1, 0, 0, 0)) (pc' := 96) rfl rfl rfl ?_
          refine r_put (pc' := 99) rfl mx_o rfl rfl (mx_put (k := 23) rfl) ?_
          refine r_s (e := (99, .aload_n 0, 1, 0, 0, 0)) (pc' := 100) rfl rfl rfl ?_
          refine r_s (e := (100, .dup, 1, 0, 0, 0)) (pc' := 101) rfl rfl rfl ?_
          refine r_get (pc' := 104) rfl mx_o (mx_Fi (k := 25) rfl) rfl ?_
          refine r_s (e := (104, .iconst 1, 1, 0, 0, 0)) (pc' := 105) rfl rfl rfl ?_
          refine r_s (e := (105, .iadd, 1, 0, 0, 0)) (pc' := 106) rfl rfl rfl ?_
          refine r_put (pc' := 109) rfl mx_o rfl rfl (mx_put (k := 25) rfl) ?_
          -- Model_openScope: stop 109
          show ax_R 1 30 c_Model_openScope (some .boolean) 109 (ax_ent 1 [.ref M]) [] (mx_H h M (mx_osF f) (mx_u (mx_u a 17 (upd (a 17) (f 23).toNatClampNeg v)) 22 (upd (mx_u a 17 (upd (a 17) (f 23).toNatClampNeg v) 22) (f 25).toNatClampNeg (f 23))) w) _ _
          unfold mx_osA
          rw [mx_u_ne (by decide), es, ed, hs, ev]
          refine r_s (e := (109, .iconst 1, 1, 0, 0, 0)) (pc' := 110) rfl rfl rfl ?_
          exact r_ret (e := (110, .ireturn, 1, 0, 0, 0)) rfl rfl rfl
          -- Model_openScope: ret 110
        by_cases q4 : d = 0
        · have q4' : ¬ ¬ f 25 = 0 := by rw [hd, q4]; exact fun g => g nI_0
          refine r_iff (pc' := 60) rfl (decide_eq_false (q4')) rfl ?_
          refine r_s (e := (60, .iconst (-1), 1, 0, 0, 0)) (pc' := 61) rfl rfl rfl ?_
          refine r_s (e := (61, .goto 14, 3, 0, 0, 0)) (pc' := 75) rfl rfl rfl ?_
          -- Model_openScope: stop 75
          exact tail (-1) (by rw [if_pos q4])
        · have q4' : ¬ f 25 = 0 := by rw [hd]; exact nI_ne0 (by omega) (by omega)
          have ej : f 25 - Int32.ofInt 1 = nI (d - 1) := by
            obtain ⟨e, rfl⟩ : ∃ e, d = e + 1 := ⟨d - 1, by omega⟩
            rw [hd]; exact nI_pred e
          have hk : ax_ix (f 25 - Int32.ofInt 1) 6 = true := by rw [ej]; exact ix_nI (by omega) (by omega)
          refine r_ift (pc' := 64) rfl (decide_eq_true (q4')) rfl ?_
          refine r_s (e := (64, .aload_n 0, 1, 0, 0, 0)) (pc' := 65) rfl rfl rfl ?_
          refine r_get (pc' := 68) rfl mx_o (mx_Fa (k := 22) (r := 13) rfl) rfl ?_
          refine r_s (e := (68, .aload_n 0, 1, 0, 0, 0)) (pc' := 69) rfl rfl rfl ?_
          refine r_get (pc' := 72) rfl mx_o (mx_Fi (k := 25) rfl) rfl ?_
          refine r_s (e := (72, .iconst 1, 1, 0, 0, 0)) (pc' := 73) rfl rfl rfl ?_
          refine r_s (e := (73, .isub, 1, 0, 0, 0)) (pc' := 74) rfl rfl rfl ?_
          refine r_iald (pc' := 75) rfl (mx_a (r := 13) (k := 22) rfl (by decide)) hk rfl rfl ?_
          -- Model_openScope: stop 75
          refine tail _ ?_
          show a 22 (f 25 - Int32.ofInt 1).toNatClampNeg = _
          rw [if_neg q4, ej, nI_clamp (by omega)]
      · rw [if_neg (fun g => by omega), if_neg (fun g => by omega), if_neg (fun g => by omega)]
        have q3' : ¬ f 25 ≤ 5 := by rw [hd]; exact nI_ge (a := 5) (b := d) (by omega) (by omega)
        refine r_icf (pc' := 26) rfl (decide_eq_false (q3')) rfl ?_
        -- Model_openScope: stop 26
        exact hfail
  · rw [if_neg (fun g => q1 g.1), if_neg (fun g => q1 g.1), if_neg (fun g => q1 g.1)]
    refine r_ict (pc' := 26) rfl (decide_eq_true (q1)) rfl ?_
    -- Model_openScope: stop 26
    exact hfail
end MC
