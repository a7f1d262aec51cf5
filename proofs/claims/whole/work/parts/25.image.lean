/-! The reference: whether a row is another's image. -/
section M9
variable {h : ax_H} {M : Nat} {f : Nat → Int32} {a : Nat → Nat → Int32} {w : Nat → Nat → Int64}
theorem nI_less {p n : Nat} : nI (p + n) - nI p = nI n := by
  rw [← nI_add, Int32.add_comm, Int32.add_sub_cancel]
def mx_ce (A : Nat → Int32) (u p : Nat) : Nat → Nat → Bool
  | 0, _ => true
  | n + 1, k => if A (u + k) = A (p + k) then mx_ce A u p n (k + 1) else false
theorem c_put_cmp {ka ra na rb u p v n : Nat} {l2 l4 l5 l7 : Option Value} {r : Option Value} {h' : ax_H} (ht : mx_T[ra]? = some (ka, 0, na)) (b1 : na < 2 ^ 30) (hv : v < 26) (hu : a 27 v = nI u) (hun : u + n ≤ na) (hpn : p + n ≤ na)
    (hF : mx_ce (a ka) u p n 0 = false → r = some (.int 0) ∧ h' = mx_H h M f a w)
    (hT : mx_ce (a ka) u p n 0 = true → ax_R 2 60 c_Model_isPutIn (some .boolean) 146 [some (.ref M), some (.ref (M + 1 + ra)), l2, some (.ref (M + 1 + rb)), l4, l5, some (.int (nI p)), l7, some (.int (nI v)), some (.int (nI (p + n))), some (.int (nI n))] [] (mx_H h M f a w) r h') :
    ∀ m k, k + m = n → mx_ce (a ka) u p n 0 = mx_ce (a ka) u p m k → ax_R 2 60 c_Model_isPutIn (some .boolean) 106 [some (.ref M), some (.ref (M + 1 + ra)), l2, some (.ref (M + 1 + rb)), l4, l5, some (.int (nI p)), l7, some (.int (nI v)), some (.int (nI (p + n))), some (.int (nI k))] [] (mx_H h M f a w) r h' := by
  intro m
  induction m with
  | zero =>
    intro k hk he
    have e : k = n := by omega
    subst e
    refine r_s (e := (106, .iload 10, 2, 0, 0, 0)) (pc' := 108) rfl rfl rfl ?_
    refine r_s (e := (108, .iload 9, 2, 0, 0, 0)) (pc' := 110) rfl rfl rfl ?_
    refine r_s (e := (110, .iload 6, 2, 0, 0, 0)) (pc' := 112) rfl rfl rfl ?_
    refine r_s (e := (112, .isub, 1, 0, 0, 0)) (pc' := 113) rfl rfl rfl ?_
    -- Model_isPutIn: stop 113
    rw [nI_less]
    refine r_ict (pc' := 146) rfl (decide_eq_true (Int32.le_refl _)) rfl ?_
    -- Model_isPutIn: stop 146
    exact hT (he.trans rfl)
  | succ m ih =>
    intro k hk he
    refine r_s (e := (106, .iload 10, 2, 0, 0, 0)) (pc' := 108) rfl rfl rfl ?_
    refine r_s (e := (108, .iload 9, 2, 0, 0, 0)) (pc' := 110) rfl rfl rfl ?_
    refine r_s (e := (110, .iload 6, 2, 0, 0, 0)) (pc' := 112) rfl rfl rfl ?_
    refine r_s (e := (112, .isub, 1, 0, 0, 0)) (pc' := 113) rfl rfl rfl ?_
    -- Model_isPutIn: stop 113
    rw [nI_less]
    have hv2 : ax_ix (nI v) 26 = true := ix_nI hv (by omega)
    have hw : a 27 (nI v).toNatClampNeg = nI u := by rw [nI_clamp (by omega), hu]
    refine r_icf (pc' := 116) rfl (decide_eq_false (nI_ge (by omega) (by omega))) rfl ?_
    refine r_s (e := (116, .aload_n 1, 1, 0, 0, 0)) (pc' := 117) rfl rfl rfl ?_
    refine r_s (e := (117, .aload_n 0, 1, 0, 0, 0)) (pc' := 118) rfl rfl rfl ?_
    refine r_get (pc' := 121) rfl mx_o (mx_Fa (k := 27) (r := 15) rfl) rfl ?_
    refine r_s (e := (121, .iload 8, 2, 0, 0, 0)) (pc' := 123) rfl rfl rfl ?_
    refine r_iald (pc' := 124) rfl (mx_a (r := 15) (k := 27) rfl (by decide)) hv2 rfl rfl ?_
    refine r_s (e := (124, .iload 10, 2, 0, 0, 0)) (pc' := 126) rfl rfl rfl ?_
    -- Model_isPutIn: stop 126
    rw [hw]
    refine r_s (e := (126, .iadd, 1, 0, 0, 0)) (pc' := 127) rfl rfl rfl ?_
    -- Model_isPutIn: stop 127
    rw [nI_add]
    have hi1 : ax_ix (nI (u + k)) na = true := ix_nI (by omega) (by omega)
    have hi2 : ax_ix (nI (p + k)) na = true := ix_nI (by omega) (by omega)
    refine r_iald (pc' := 128) rfl (mx_a ht (by decide)) hi1 rfl rfl ?_
    refine r_s (e := (128, .aload_n 1, 1, 0, 0, 0)) (pc' := 129) rfl rfl rfl ?_
    refine r_s (e := (129, .iload 6, 2, 0, 0, 0)) (pc' := 131) rfl rfl rfl ?_
    refine r_s (e := (131, .iload 10, 2, 0, 0, 0)) (pc' := 133) rfl rfl rfl ?_
    refine r_s (e := (133, .iadd, 1, 0, 0, 0)) (pc' := 134) rfl rfl rfl ?_
    -- Model_isPutIn: stop 134
    rw [nI_add]
    refine r_iald (pc' := 135) rfl (mx_a ht (by decide)) hi2 rfl rfl ?_
    rw [nI_clamp (by omega), nI_clamp (by omega)]
    rw [show mx_ce (a ka) u p (m + 1) k = if a ka (u + k) = a ka (p + k) then mx_ce (a ka) u p m (k + 1) else false from rfl] at he
    by_cases q : a ka (u + k) = a ka (p + k)
    · rw [if_pos q] at he
      refine r_ict (pc' := 140) rfl (decide_eq_true (q)) rfl ?_
      refine r_s (e := (140, .iinc 10 1, 3, 0, 0, 0)) (pc' := 143) rfl rfl rfl ?_
      refine r_s (e := (143, .goto (-37), 3, 0, 0, 0)) (pc' := 106) rfl rfl rfl ?_
      -- Model_isPutIn: stop 106
      have hh := ih (k + 1) (by omega) he
      rw [nI_succ] at hh
      exact hh
    · rw [if_neg q] at he
      obtain ⟨rfl, rfl⟩ := hF he
      refine r_icf (pc' := 138) rfl (decide_eq_false (q)) rfl ?_
      refine r_s (e := (138, .iconst 0, 1, 0, 0, 0)) (pc' := 139) rfl rfl rfl ?_
      exact r_ret (e := (139, .ireturn, 1, 0, 0, 0)) rfl rfl rfl
      -- Model_isPutIn: ret 139
def mx_pt (A B : Nat → Int32) (na : Nat) : Nat → Nat → Nat → (Nat → Int32) → Option (Bool × (Nat → Int32))
  | 0, _, _, G => some (true, G)
  | n + 1, q, p, G => if p < na then (if B q < 0 then (match mx_bh A na na 1 p with
      | none => none
      | some e => if (-1 - B q).toNatClampNeg < 26 ∧ ¬ -1 - B q < 0 ∧ p ≤ e ∧ e ≤ na then (if G (-1 - B q).toNatClampNeg = -1 then mx_pt A B na n (q + 1) e (upd G (-1 - B q).toNatClampNeg (nI p))
          else if G (-1 - B q).toNatClampNeg < 0 ∨ na < (G (-1 - B q).toNatClampNeg).toNatClampNeg + (e - p) then none
          else if mx_ce A (G (-1 - B q).toNatClampNeg).toNatClampNeg p (e - p) 0 = true then mx_pt A B na n (q + 1) e G else some (false, G)) else none)
      else if A p = B q then mx_pt A B na n (q + 1) (p + 1) G else some (false, G)) else none
theorem mx_ce_refl {A : Nat → Int32} {p : Nat} : ∀ n k, mx_ce A p p n k = true := by
  intro n
  induction n with
  | zero => intro k; rfl
  | succ n ih =>
    intro k
    unfold mx_ce
    rw [if_pos rfl]
    exact ih _
theorem c_put_loop {ka ra na kb rb nb y m : Nat} {b : Bool} {G' : Nat → Int32} {l2 : Option Value} (ht : mx_T[ra]? = some (ka, 0, na)) (hs : mx_T[rb]? = some (kb, 0, nb)) (hk : ¬ ka = 27) (hk2 : ¬ kb = 27) (b1 : na < 2 ^ 30) (b2 : nb < 2 ^ 30) (hm : y + m ≤ nb) :
    ∀ n q p G, mx_pt (a ka) (a kb) na n q p G = some (b, G') → q + n = y + m → p ≤ na → ∀ l8 l9 l10, ax_R 2 60 c_Model_isPutIn (some .boolean) 31 [some (.ref M), some (.ref (M + 1 + ra)), l2, some (.ref (M + 1 + rb)), some (.int (nI y)), some (.int (nI m)), some (.int (nI p)), some (.int (nI q)), l8, l9, l10] [] (mx_H h M f (mx_u a 27 G) w) (some (.int (if b = true then 1 else 0))) (mx_H h M f (mx_u a 27 G') w) := by
  intro n
  induction n with
  | zero =>
    intro q p G hx hq hp l8 l9 l10
    have e : q = y + m := by omega
    unfold mx_pt at hx
    injection hx with hx
    injection hx with hx1 hx2
    subst hx1 hx2
    refine r_s (e := (31, .iload 7, 2, 0, 0, 0)) (pc' := 33) rfl rfl rfl ?_
    refine r_s (e := (33, .iload 4, 2, 0, 0, 0)) (pc' := 35) rfl rfl rfl ?_
    refine r_s (e := (35, .iload 5, 2, 0, 0, 0)) (pc' := 37) rfl rfl rfl ?_
    refine r_s (e := (37, .iadd, 1, 0, 0, 0)) (pc' := 38) rfl rfl rfl ?_
    -- Model_isPutIn: stop 38
    rw [nI_add, e]
    refine r_ict (pc' := 156) rfl (decide_eq_true (Int32.le_refl _)) rfl ?_
    refine r_s (e := (156, .iconst 1, 1, 0, 0, 0)) (pc' := 157) rfl rfl rfl ?_
    exact r_ret (e := (157, .ireturn, 1, 0, 0, 0)) rfl rfl rfl
    -- Model_isPutIn: ret 157
  | succ n ih =>
    intro q p G hx hq hp l8 l9 l10
    unfold mx_pt at hx
    by_cases q1 : p < na
    · rw [if_pos q1] at hx
      have hi : ax_ix (nI q) nb = true := ix_nI (by omega) (by omega)
      have hj : ax_ix (nI p) na = true := ix_nI (by omega) (by omega)
      have eq0 : (nI q).toNatClampNeg = q := nI_clamp (by omega)
      have ep0 : (nI p).toNatClampNeg = p := nI_clamp (by omega)
      have ha : mx_u a 27 G ka = a ka := mx_u_ne hk
      have hb : mx_u a 27 G kb = a kb := mx_u_ne hk2
      refine r_s (e := (31, .iload 7, 2, 0, 0, 0)) (pc' := 33) rfl rfl rfl ?_
      refine r_s (e := (33, .iload 4, 2, 0, 0, 0)) (pc' := 35) rfl rfl rfl ?_
      refine r_s (e := (35, .iload 5, 2, 0, 0, 0)) (pc' := 37) rfl rfl rfl ?_
      refine r_s (e := (37, .iadd, 1, 0, 0, 0)) (pc' := 38) rfl rfl rfl ?_
      -- Model_isPutIn: stop 38
      rw [nI_add]
      refine r_icf (pc' := 41) rfl (decide_eq_false (nI_ge (by omega) (by omega))) rfl ?_
      refine r_s (e := (41, .aload_n 3, 1, 0, 0, 0)) (pc' := 42) rfl rfl rfl ?_
      refine r_s (e := (42, .iload 7, 2, 0, 0, 0)) (pc' := 44) rfl rfl rfl ?_
      refine r_iald (pc' := 45) rfl (mx_a hs (by decide)) hi rfl rfl ?_
      -- Model_isPutIn: stop 45
      rw [eq0, hb]
      by_cases q2 : a kb q < 0
      · rw [if_pos q2] at hx
        refine r_ift (pc' := 67) rfl (decide_eq_true (q2)) rfl ?_
        refine r_s (e := (67, .iconst (-1), 1, 0, 0, 0)) (pc' := 68) rfl rfl rfl ?_
        refine r_s (e := (68, .aload_n 3, 1, 0, 0, 0)) (pc' := 69) rfl rfl rfl ?_
        refine r_s (e := (69, .iload 7, 2, 0, 0, 0)) (pc' := 71) rfl rfl rfl ?_
        refine r_iald (pc' := 72) rfl (mx_a hs (by decide)) hi rfl rfl ?_
        -- Model_isPutIn: stop 72
        rw [eq0, hb]
        cases hbh : mx_bh (a ka) na na 1 p with
        | none => rw [hbh] at hx; cases hx
        | some e =>
          rw [hbh] at hx
          dsimp only at hx
          by_cases q3 : (-1 - a kb q).toNatClampNeg < 26 ∧ ¬ -1 - a kb q < 0 ∧ p ≤ e ∧ e ≤ na
          · rw [if_pos q3] at hx
            obtain ⟨v, hv, ev⟩ := nI_of q3.2.1
            obtain ⟨d, rfl⟩ : ∃ d, e = p + d := ⟨e - p, by omega⟩
            rw [Nat.add_sub_cancel_left] at hx
            rw [ev, nI_clamp hv] at hx q3
            have hv2 : ax_ix (nI v) 26 = true := ix_nI q3.1 (by omega)
            have ev0 : (nI v).toNatClampNeg = v := nI_clamp hv
            refine r_s (e := (72, .isub, 1, 0, 0, 0)) (pc' := 73) rfl rfl rfl ?_
            -- Model_isPutIn: stop 73
            rw [show Int32.ofInt (-1) - a kb q = nI v from ev]
            refine r_s (e := (73, .istore 8, 2, 0, 0, 0)) (pc' := 75) rfl rfl rfl ?_
            refine r_s (e := (75, .aload_n 1, 1, 0, 0, 0)) (pc' := 76) rfl rfl rfl ?_
            refine r_s (e := (76, .iload 6, 2, 0, 0, 0)) (pc' := 78) rfl rfl rfl ?_
            -- Model_isPutIn: stop 78
            refine r_call (e := (78, .invokestatic 196, 3, 34, 1, 267)) (as := [.ref (M + 1 + ra), .int (nI p)]) (rest := []) rfl rfl ax_Z_34 rfl rfl rfl (Nat.le_of_ble_eq_true rfl) (Nat.le_of_ble_eq_true rfl) (by decide) (by decide) (c_behind ht b1 (by rw [ha]; exact hbh)) ?_
            refine r_s (e := (81, .istore 9, 2, 0, 0, 0)) (pc' := 83) rfl rfl rfl ?_
            refine r_s (e := (83, .aload_n 0, 1, 0, 0, 0)) (pc' := 84) rfl rfl rfl ?_
            refine r_get (pc' := 87) rfl mx_o (mx_Fa (k := 27) (r := 15) rfl) rfl ?_
            refine r_s (e := (87, .iload 8, 2, 0, 0, 0)) (pc' := 89) rfl rfl rfl ?_
            refine r_iald (pc' := 90) rfl (mx_a (r := 15) (k := 27) rfl (by decide)) hv2 rfl rfl ?_
            refine r_s (e := (90, .iconst (-1), 1, 0, 0, 0)) (pc' := 91) rfl rfl rfl ?_
            -- Model_isPutIn: stop 91
            rw [ev0, mx_u_eq]
            by_cases q4 : G v = -1
            · rw [if_pos q4] at hx
              refine r_icf (pc' := 94) rfl (decide_eq_false (fun g => g q4)) rfl ?_
              refine r_s (e := (94, .aload_n 0, 1, 0, 0, 0)) (pc' := 95) rfl rfl rfl ?_
              refine r_get (pc' := 98) rfl mx_o (mx_Fa (k := 27) (r := 15) rfl) rfl ?_
              refine r_s (e := (98, .iload 8, 2, 0, 0, 0)) (pc' := 100) rfl rfl rfl ?_
              refine r_s (e := (100, .iload 6, 2, 0, 0, 0)) (pc' := 102) rfl rfl rfl ?_
              refine r_iast (pc' := 103) rfl (mx_a (r := 15) (k := 27) rfl (by decide)) hv2 (by omega) rfl (mx_sta rfl (by decide)) ?_
              refine r_s (e := (103, .iconst 0, 1, 0, 0, 0)) (pc' := 104) rfl rfl rfl ?_
              refine r_s (e := (104, .istore 10, 2, 0, 0, 0)) (pc' := 106) rfl rfl rfl ?_
              -- Model_isPutIn: stop 106
              rw [ev0, mx_u_u, mx_u_eq]
              have ha2 : mx_u a 27 (upd G v (nI p)) ka = a ka := mx_u_ne hk
              refine c_put_cmp (u := p) (v := v) (n := d) (p := p) ht b1 q3.1 (by rw [mx_u_eq, up_eq]) (by omega) (by omega) ?_ ?_ d 0 (by omega) rfl
              · intro g; rw [mx_ce_refl] at g; cases g
              · intro g
                refine r_s (e := (146, .iload 9, 2, 0, 0, 0)) (pc' := 148) rfl rfl rfl ?_
                refine r_s (e := (148, .istore 6, 2, 0, 0, 0)) (pc' := 150) rfl rfl rfl ?_
                refine r_s (e := (150, .iinc 7 1, 3, 0, 0, 0)) (pc' := 153) rfl rfl rfl ?_
                refine r_s (e := (153, .goto (-122), 3, 0, 0, 0)) (pc' := 31) rfl rfl rfl ?_
                -- Model_isPutIn: stop 31
                have hh := ih (q + 1) (p + d) (upd G v (nI p)) hx (by omega) (by omega) (some (.int (nI v))) (some (.int (nI (p + d)))) (some (.int (nI d)))
                rw [nI_succ] at hh
                exact hh
            · rw [if_neg q4] at hx
              by_cases q5 : G v < 0 ∨ na < (G v).toNatClampNeg + d
              · rw [if_pos q5] at hx; cases hx
              · rw [if_neg q5] at hx
                obtain ⟨u, hu, eu⟩ := nI_of (fun g => q5 (Or.inl g))
                rw [eu, nI_clamp hu] at hx q5
                refine r_ict (pc' := 103) rfl (decide_eq_true (q4)) rfl ?_
                refine r_s (e := (103, .iconst 0, 1, 0, 0, 0)) (pc' := 104) rfl rfl rfl ?_
                refine r_s (e := (104, .istore 10, 2, 0, 0, 0)) (pc' := 106) rfl rfl rfl ?_
                -- Model_isPutIn: stop 106
                have ha2 : mx_u a 27 G ka = a ka := mx_u_ne hk
                refine c_put_cmp (u := u) (v := v) (n := d) (p := p) ht b1 q3.1 (by rw [mx_u_eq]; exact eu) (by omega) (by omega) ?_ ?_ d 0 (by omega) rfl
                · intro g
                  rw [ha2] at g
                  rw [if_neg (by rw [g]; decide)] at hx
                  injection hx with hx
                  injection hx with hx1 hx2
                  subst hx1 hx2
                  exact ⟨rfl, rfl⟩
                · intro g
                  rw [ha2] at g
                  rw [if_pos g] at hx
                  refine r_s (e := (146, .iload 9, 2, 0, 0, 0)) (pc' := 148) rfl rfl rfl ?_
                  refine r_s (e := (148, .istore 6, 2, 0, 0, 0)) (pc' := 150) rfl rfl rfl ?_
                  refine r_s (e := (150, .iinc 7 1, 3, 0, 0, 0)) (pc' := 153) rfl rfl rfl ?_
                  refine r_s (e := (153, .goto (-122), 3, 0, 0, 0)) (pc' := 31) rfl rfl rfl ?_
                  -- Model_isPutIn: stop 31
                  have hh := ih (q + 1) (p + d) G hx (by omega) (by omega) (some (.int (nI v))) (some (.int (nI (p + d)))) (some (.int (nI d)))
                  rw [nI_succ] at hh
                  exact hh
          · rw [if_neg q3] at hx; cases hx
      · rw [if_neg q2] at hx
        refine r_iff (pc' := 48) rfl (decide_eq_false (q2)) rfl ?_
        refine r_s (e := (48, .aload_n 1, 1, 0, 0, 0)) (pc' := 49) rfl rfl rfl ?_
        refine r_s (e := (49, .iload 6, 2, 0, 0, 0)) (pc' := 51) rfl rfl rfl ?_
        refine r_iald (pc' := 52) rfl (mx_a ht (by decide)) hj rfl rfl ?_
        refine r_s (e := (52, .aload_n 3, 1, 0, 0, 0)) (pc' := 53) rfl rfl rfl ?_
        refine r_s (e := (53, .iload 7, 2, 0, 0, 0)) (pc' := 55) rfl rfl rfl ?_
        refine r_iald (pc' := 56) rfl (mx_a hs (by decide)) hi rfl rfl ?_
        -- Model_isPutIn: stop 56
        rw [eq0, ep0, hb, ha]
        by_cases q3 : a ka p = a kb q
        · rw [if_pos q3] at hx
          refine r_ict (pc' := 61) rfl (decide_eq_true (q3)) rfl ?_
          refine r_s (e := (61, .iinc 6 1, 3, 0, 0, 0)) (pc' := 64) rfl rfl rfl ?_
          refine r_s (e := (64, .goto 86, 3, 0, 0, 0)) (pc' := 150) rfl rfl rfl ?_
          refine r_s (e := (150, .iinc 7 1, 3, 0, 0, 0)) (pc' := 153) rfl rfl rfl ?_
          refine r_s (e := (153, .goto (-122), 3, 0, 0, 0)) (pc' := 31) rfl rfl rfl ?_
          -- Model_isPutIn: stop 31
          have hh := ih (q + 1) (p + 1) G hx (by omega) (by omega) l8 l9 l10
          rw [nI_succ, nI_succ] at hh
          exact hh
        · rw [if_neg q3] at hx
          injection hx with hx
          injection hx with hx1 hx2
          subst hx1 hx2
          refine r_icf (pc' := 59) rfl (decide_eq_false (q3)) rfl ?_
          refine r_s (e := (59, .iconst 0, 1, 0, 0, 0)) (pc' := 60) rfl rfl rfl ?_
          exact r_ret (e := (60, .ireturn, 1, 0, 0, 0)) rfl rfl rfl
          -- Model_isPutIn: ret 60
    · rw [if_neg q1] at hx; cases hx
theorem c_put_fill {ra x rb y m : Nat} {r : Option Value} {h' : ax_H} (k : ax_R 2 60 c_Model_isPutIn (some .boolean) 24 [some (.ref M), some (.ref (M + 1 + ra)), some (.int (nI x)), some (.ref (M + 1 + rb)), some (.int (nI y)), some (.int (nI m)), some (.int (nI 26)), none, none, none, none] [] (mx_H h M f (mx_u a 27 (mx_fill (a 27) 26 (-1))) w) r h') :
    ∀ d i, i + d = 26 → ax_R 2 60 c_Model_isPutIn (some .boolean) 3 [some (.ref M), some (.ref (M + 1 + ra)), some (.int (nI x)), some (.ref (M + 1 + rb)), some (.int (nI y)), some (.int (nI m)), some (.int (nI i)), none, none, none, none] [] (mx_H h M f (mx_u a 27 (mx_fill (a 27) i (-1))) w) r h' := by
  intro d
  induction d with
  | zero =>
    intro i hi
    have e : i = 26 := by omega
    refine r_s (e := (3, .iload 6, 2, 0, 0, 0)) (pc' := 5) rfl rfl rfl ?_
    refine r_s (e := (5, .bipush 26, 2, 0, 0, 0)) (pc' := 7) rfl rfl rfl ?_
    refine r_ict (pc' := 24) rfl (decide_eq_true (nI_le (a := 26) (b := i) (by omega) (by omega))) rfl ?_
    -- Model_isPutIn: stop 24
    rw [e]
    exact k
  | succ d ih =>
    intro i hi
    have hx : ax_ix (nI i) 26 = true := ix_nI (by omega) (by omega)
    refine r_s (e := (3, .iload 6, 2, 0, 0, 0)) (pc' := 5) rfl rfl rfl ?_
    refine r_s (e := (5, .bipush 26, 2, 0, 0, 0)) (pc' := 7) rfl rfl rfl ?_
    refine r_icf (pc' := 10) rfl (decide_eq_false (nI_ge (a := i) (b := 26) (by omega) (by omega))) rfl ?_
    refine r_s (e := (10, .aload_n 0, 1, 0, 0, 0)) (pc' := 11) rfl rfl rfl ?_
    refine r_get (pc' := 14) rfl mx_o (mx_Fa (k := 27) (r := 15) rfl) rfl ?_
    refine r_s (e := (14, .iload 6, 2, 0, 0, 0)) (pc' := 16) rfl rfl rfl ?_
    refine r_s (e := (16, .iconst (-1), 1, 0, 0, 0)) (pc' := 17) rfl rfl rfl ?_
    refine r_iast (pc' := 18) rfl (mx_a (r := 15) (k := 27) rfl (by decide)) hx (by omega) rfl (mx_sta rfl (by decide)) ?_
    refine r_s (e := (18, .iinc 6 1, 3, 0, 0, 0)) (pc' := 21) rfl rfl rfl ?_
    refine r_s (e := (21, .goto (-18), 3, 0, 0, 0)) (pc' := 3) rfl rfl rfl ?_
    -- Model_isPutIn: stop 3
    have hh := ih (i + 1) (by omega)
    rw [nI_clamp (by omega), mx_u_u, mx_u_eq]
    rw [← mx_fill_step, nI_succ] at hh
    exact hh
theorem c_isPutIn {ka ra na kb rb nb x y m : Nat} {b : Bool} {G' : Nat → Int32} (ht : mx_T[ra]? = some (ka, 0, na)) (hs : mx_T[rb]? = some (kb, 0, nb)) (hk : ¬ ka = 27) (hk2 : ¬ kb = 27) (b1 : na < 2 ^ 30) (b2 : nb < 2 ^ 30) (hm : y + m ≤ nb) (hx : x ≤ na) (hp : mx_pt (a ka) (a kb) na m y x (mx_fill (a 27) 26 (-1)) = some (b, G')) : ax_R 2 60 c_Model_isPutIn (some .boolean) 0 (ax_ent 11 [.ref M, .ref (M + 1 + ra), .int (nI x), .ref (M + 1 + rb), .int (nI y), .int (nI m)]) [] (mx_H h M f a w) (some (.int (if b = true then 1 else 0))) (mx_H h M f (mx_u a 27 G') w) := by
  refine r_s (e := (0, .iconst 0, 1, 0, 0, 0)) (pc' := 1) rfl rfl rfl ?_
  refine r_s (e := (1, .istore 6, 2, 0, 0, 0)) (pc' := 3) rfl rfl rfl ?_
  -- Model_isPutIn: stop 3
  have hh := c_put_fill (h := h) (M := M) (f := f) (a := a) (w := w) (ra := ra) (x := x) (rb := rb) (y := y) (m := m) (r := some (.int (if b = true then 1 else 0))) (h' := mx_H h M f (mx_u a 27 G') w) (by
    refine r_s (e := (24, .iload_n 2, 1, 0, 0, 0)) (pc' := 25) rfl rfl rfl ?_
    refine r_s (e := (25, .istore 6, 2, 0, 0, 0)) (pc' := 27) rfl rfl rfl ?_
    refine r_s (e := (27, .iload 4, 2, 0, 0, 0)) (pc' := 29) rfl rfl rfl ?_
    refine r_s (e := (29, .istore 7, 2, 0, 0, 0)) (pc' := 31) rfl rfl rfl ?_
    -- Model_isPutIn: stop 31
    exact c_put_loop ht hs hk hk2 b1 b2 hm m y x _ hp rfl hx none none none) 26 0 (by omega)
  rw [mx_fill_0, mx_u_id] at hh
  exact hh
end M9
