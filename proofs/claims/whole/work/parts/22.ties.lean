/-! The reference: untying, and small methods over answers. -/
section M6
variable {h : ax_H} {M : Nat} {w : Nat → Nat → Int64}
def mx_un (x tr : Nat → Int32) (lo : Nat) : Nat → Nat → Int32
  | 0 => x
  | n + 1 => mx_un (upd x (tr (lo + n)).toNatClampNeg (-1)) tr lo n
theorem up_id {g : Nat → Int32} {k : Nat} {x : Int32} (e : g k = x) : upd g k x = g := by
  funext j
  by_cases q : j = k
  · subst q; simp [upd, e]
  · simp [upd, q]
theorem c_untie {lo : Nat} : ∀ n (f : Nat → Int32) (a : Nat → Nat → Int32), f 35 = nI (lo + n) → lo + n ≤ 20000 → (∀ k, lo ≤ k → k < lo + n → ax_ix (a 32 k) 40000 = true) → ax_R 0 0 c_Model_untie none 0 (ax_ent 2 [.ref M, .int (nI lo)]) [] (mx_H h M f a w) none (mx_H h M (upd f 35 (nI lo)) (mx_u a 30 (mx_un (a 30) (a 32) lo n)) w) := by
  intro n
  induction n with
  | zero =>
    intro f a hm hb hx
    refine r_s (e := (0, .aload_n 0, 1, 0, 0, 0)) (pc' := 1) rfl rfl rfl ?_
    refine r_get (pc' := 4) rfl mx_o (mx_Fi (k := 35) rfl) rfl ?_
    refine r_s (e := (4, .iload_n 1, 1, 0, 0, 0)) (pc' := 5) rfl rfl rfl ?_
    refine r_icmp (t := 36) (f := 8) rfl rfl rfl rfl (fun hc => ?_) (fun hc => ?_)
    -- Model_untie: br 36 8
    · rw [up_id (g := f) (k := 35) (x := nI lo) hm]
      show ax_R 0 0 c_Model_untie none 36 _ [] _ none (mx_H h M f (mx_u a 30 (a 30)) w)
      rw [mx_u_id]
      exact r_ret (e := (36, .return_, 1, 0, 0, 0)) rfl rfl rfl
      -- Model_untie: ret 36
    · exact absurd (show f 35 ≤ nI lo by rw [hm]; exact Int32.le_refl _) hc
  | succ n ih =>
    intro f a hm hb hx
    refine r_s (e := (0, .aload_n 0, 1, 0, 0, 0)) (pc' := 1) rfl rfl rfl ?_
    refine r_get (pc' := 4) rfl mx_o (mx_Fi (k := 35) rfl) rfl ?_
    refine r_s (e := (4, .iload_n 1, 1, 0, 0, 0)) (pc' := 5) rfl rfl rfl ?_
    refine r_icmp (t := 36) (f := 8) rfl rfl rfl rfl (fun hc => ?_) (fun hc => ?_)
    -- Model_untie: br 36 8
    · rw [hm] at hc
      exact absurd hc (nI_ge (by omega) (by omega))
    · have e1 : f 35 - Int32.ofInt 1 = nI (lo + n) := by rw [hm]; exact nI_pred (lo + n)
      refine r_s (e := (8, .aload_n 0, 1, 0, 0, 0)) (pc' := 9) rfl rfl rfl ?_
      refine r_s (e := (9, .dup, 1, 0, 0, 0)) (pc' := 10) rfl rfl rfl ?_
      refine r_get (pc' := 13) rfl mx_o (mx_Fi (k := 35) rfl) rfl ?_
      refine r_s (e := (13, .iconst 1, 1, 0, 0, 0)) (pc' := 14) rfl rfl rfl ?_
      refine r_s (e := (14, .isub, 1, 0, 0, 0)) (pc' := 15) rfl rfl rfl ?_
      -- Model_untie: stop 15
      rw [e1]
      have hi : ax_ix (upd f 35 (nI (lo + n)) 35) 20000 = true := by rw [up_eq]; exact ix_nI (by omega) (by omega)
      have e2 : (upd f 35 (nI (lo + n)) 35).toNatClampNeg = lo + n := by rw [up_eq, nI_clamp (by omega)]
      have hj : ax_ix (a 32 (upd f 35 (nI (lo + n)) 35).toNatClampNeg) 40000 = true := by rw [e2]; exact hx _ (by omega) (by omega)
      refine r_put (pc' := 18) rfl mx_o rfl rfl (mx_put (k := 35) rfl) ?_
      refine r_s (e := (18, .aload_n 0, 1, 0, 0, 0)) (pc' := 19) rfl rfl rfl ?_
      refine r_get (pc' := 22) rfl mx_o (mx_Fa (k := 30) (r := 18) rfl) rfl ?_
      refine r_s (e := (22, .aload_n 0, 1, 0, 0, 0)) (pc' := 23) rfl rfl rfl ?_
      refine r_get (pc' := 26) rfl mx_o (mx_Fa (k := 32) (r := 20) rfl) rfl ?_
      refine r_s (e := (26, .aload_n 0, 1, 0, 0, 0)) (pc' := 27) rfl rfl rfl ?_
      refine r_get (pc' := 30) rfl mx_o (mx_Fi (k := 35) rfl) rfl ?_
      refine r_iald (pc' := 31) rfl (mx_a (r := 20) (k := 32) rfl (by decide)) hi rfl rfl ?_
      refine r_s (e := (31, .iconst (-1), 1, 0, 0, 0)) (pc' := 32) rfl rfl rfl ?_
      refine r_iast (pc' := 33) rfl (mx_a (r := 18) (k := 30) rfl (by decide)) hj (by omega) rfl (mx_sta rfl (by decide)) ?_
      refine r_s (e := (33, .goto (-33), 3, 0, 0, 0)) (pc' := 0) rfl rfl rfl ?_
      -- Model_untie: stop 0
      rw [e2]
      have hh := ih (upd f 35 (nI (lo + n))) (mx_u a 30 (upd (a 30) (a 32 (lo + n)).toNatClampNeg (-1))) up_eq (by omega) (fun k k1 k2 => by rw [mx_u_ne (by decide)]; exact hx k k1 (by omega))
      rw [up_up, mx_u_u, mx_u_eq, mx_u_ne (by decide)] at hh
      exact hh
def mx_sn (hd td : Nat → Int32) : Nat → Nat → Option Nat
  | 0, _ => none
  | n + 1, x => if x < 40000 then (if hd x = -1 ∧ ¬ td x = -1 then (if td x < 0 then none else mx_sn hd td n (td x).toNatClampNeg) else some x) else none
theorem c_seen_loop {f : Nat → Int32} {a : Nat → Nat → Int32} {y : Nat} {x0 : Int32} : ∀ n x, mx_sn (a 28) (a 30) n x = some y → ax_R 0 0 c_Model_seen (some .int) 2 [some (.ref M), some (.int x0), some (.int (nI x))] [] (mx_H h M f a w) (some (.int (nI y))) (mx_H h M f a w) := by
  intro n
  induction n with
  | zero => intro x hx; cases hx
  | succ n ih =>
    intro x hx
    unfold mx_sn at hx
    by_cases q1 : x < 40000
    · rw [if_pos q1] at hx
      have hi : ax_ix (nI x) 40000 = true := ix_nI q1 (by omega)
      have ex : (nI x).toNatClampNeg = x := nI_clamp (by omega)
      by_cases q2 : a 28 x = -1 ∧ ¬ a 30 x = -1
      · rw [if_pos q2] at hx
        by_cases q3 : a 30 x < 0
        · rw [if_pos q3] at hx; cases hx
        · rw [if_neg q3] at hx
          refine r_s (e := (2, .aload_n 0, 1, 0, 0, 0)) (pc' := 3) rfl rfl rfl ?_
          refine r_get (pc' := 6) rfl mx_o (mx_Fa (k := 28) (r := 16) rfl) rfl ?_
          refine r_s (e := (6, .iload_n 2, 1, 0, 0, 0)) (pc' := 7) rfl rfl rfl ?_
          refine r_iald (pc' := 8) rfl (mx_a (r := 16) (k := 28) rfl (by decide)) hi rfl rfl ?_
          refine r_s (e := (8, .iconst (-1), 1, 0, 0, 0)) (pc' := 9) rfl rfl rfl ?_
          refine r_icmp (t := 32) (f := 12) rfl rfl rfl rfl (fun hc => ?_) (fun hc => ?_)
          -- Model_seen: br 32 12
          · rw [ex] at hc; exact absurd q2.1 hc
          · refine r_s (e := (12, .aload_n 0, 1, 0, 0, 0)) (pc' := 13) rfl rfl rfl ?_
            refine r_get (pc' := 16) rfl mx_o (mx_Fa (k := 30) (r := 18) rfl) rfl ?_
            refine r_s (e := (16, .iload_n 2, 1, 0, 0, 0)) (pc' := 17) rfl rfl rfl ?_
            refine r_iald (pc' := 18) rfl (mx_a (r := 18) (k := 30) rfl (by decide)) hi rfl rfl ?_
            refine r_s (e := (18, .iconst (-1), 1, 0, 0, 0)) (pc' := 19) rfl rfl rfl ?_
            refine r_icmp (t := 32) (f := 22) rfl rfl rfl rfl (fun hc => ?_) (fun hc => ?_)
            -- Model_seen: br 32 22
            · rw [ex] at hc; exact absurd hc q2.2
            · refine r_s (e := (22, .aload_n 0, 1, 0, 0, 0)) (pc' := 23) rfl rfl rfl ?_
              refine r_get (pc' := 26) rfl mx_o (mx_Fa (k := 30) (r := 18) rfl) rfl ?_
              refine r_s (e := (26, .iload_n 2, 1, 0, 0, 0)) (pc' := 27) rfl rfl rfl ?_
              refine r_iald (pc' := 28) rfl (mx_a (r := 18) (k := 30) rfl (by decide)) hi rfl rfl ?_
              refine r_s (e := (28, .istore_n 2, 1, 0, 0, 0)) (pc' := 29) rfl rfl rfl ?_
              refine r_s (e := (29, .goto (-27), 3, 0, 0, 0)) (pc' := 2) rfl rfl rfl ?_
              -- Model_seen: stop 2
              rw [ex]
              have hh := ih _ hx
              obtain ⟨j, hj, ej⟩ := nI_of q3
              rw [ej, nI_clamp hj] at hh
              rw [ej]
              exact hh
      · rw [if_neg q2] at hx
        obtain rfl : x = y := by injection hx
        refine r_s (e := (2, .aload_n 0, 1, 0, 0, 0)) (pc' := 3) rfl rfl rfl ?_
        refine r_get (pc' := 6) rfl mx_o (mx_Fa (k := 28) (r := 16) rfl) rfl ?_
        refine r_s (e := (6, .iload_n 2, 1, 0, 0, 0)) (pc' := 7) rfl rfl rfl ?_
        refine r_iald (pc' := 8) rfl (mx_a (r := 16) (k := 28) rfl (by decide)) hi rfl rfl ?_
        refine r_s (e := (8, .iconst (-1), 1, 0, 0, 0)) (pc' := 9) rfl rfl rfl ?_
        refine r_icmp (t := 32) (f := 12) rfl rfl rfl rfl (fun hc => ?_) (fun hc => ?_)
        -- Model_seen: br 32 12
        · refine r_s (e := (32, .iload_n 2, 1, 0, 0, 0)) (pc' := 33) rfl rfl rfl ?_
          exact r_ret (e := (33, .ireturn, 1, 0, 0, 0)) rfl rfl rfl
          -- Model_seen: ret 33
        · rw [ex] at hc
          have hd : a 28 x = -1 := Classical.not_not.mp hc
          refine r_s (e := (12, .aload_n 0, 1, 0, 0, 0)) (pc' := 13) rfl rfl rfl ?_
          refine r_get (pc' := 16) rfl mx_o (mx_Fa (k := 30) (r := 18) rfl) rfl ?_
          refine r_s (e := (16, .iload_n 2, 1, 0, 0, 0)) (pc' := 17) rfl rfl rfl ?_
          refine r_iald (pc' := 18) rfl (mx_a (r := 18) (k := 30) rfl (by decide)) hi rfl rfl ?_
          refine r_s (e := (18, .iconst (-1), 1, 0, 0, 0)) (pc' := 19) rfl rfl rfl ?_
          refine r_icmp (t := 32) (f := 22) rfl rfl rfl rfl (fun hc => ?_) (fun hc => ?_)
          -- Model_seen: br 32 22
          · refine r_s (e := (32, .iload_n 2, 1, 0, 0, 0)) (pc' := 33) rfl rfl rfl ?_
            exact r_ret (e := (33, .ireturn, 1, 0, 0, 0)) rfl rfl rfl
            -- Model_seen: ret 33
          · rw [ex] at hc
            exact absurd ⟨hd, hc⟩ q2
    · rw [if_neg q1] at hx; cases hx
theorem c_seen {f : Nat → Int32} {a : Nat → Nat → Int32} {n x y : Nat} (hx : mx_sn (a 28) (a 30) n x = some y) : ax_R 0 0 c_Model_seen (some .int) 0 (ax_ent 3 [.ref M, .int (nI x)]) [] (mx_H h M f a w) (some (.int (nI y))) (mx_H h M f a w) := by
  refine r_s (e := (0, .iload_n 1, 1, 0, 0, 0)) (pc' := 1) rfl rfl rfl ?_
  refine r_s (e := (1, .istore_n 2, 1, 0, 0, 0)) (pc' := 2) rfl rfl rfl ?_
  -- Model_seen: stop 2
  exact c_seen_loop n x hx
end M6
