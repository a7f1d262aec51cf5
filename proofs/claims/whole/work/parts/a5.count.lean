/-! How many values: the count as a whole, the class. -/
section ZVg
variable {n d : Nat} {σ σ1 σ2 : jS} {g g' : zH} {N N' may k x : Int} {β new β' : List (Int × Int)} {T : zT} {M : zM} {r L : List Int}
theorem c_cnew {Q : Int → jS → Prop} (hd3 : d ≤ 3) (hn : 11 + 3 * d ≤ n) (hc : ∀ d', d = d' + 1 → cntC T M may d' (12 + 3 * d')) (hA : cvA σ T M may g N β) (hv : vOK g N β x L r) (hr1 : r.length * 12 ^ d ≤ 20736) (hL : L.length + 24 * d ≤ 84) (hN : N + 60 * ((d : Nat) : Int) + 60 ≤ 300) (hzu : zu g N + 26 * d + 26 ≤ 200) (hvar : vNo T may)
    (hq : ∀ σ', kvq d σ σ' → cvA σ' T M may g N β → Q (vl T may d r) σ') : TrI n i_Search_countAnew [jo 7 0, ji x, ji may, ji ((d : Nat) : Int)] σ Q := by
  rw [vl_eq] at hq
  have hT0 := hA.1.2.2.1.1
  have hG := hT0.2.2.2.1
  have hG0 := hT0.2.2.1
  have hcb := fun k => vCt_b (T := T) (may := may) (f := vf T may d) (r := r) (fun f' h => vf_0 h) k
  have loop : ∀ (j k : Nat) (s : Int) (σ1 : jS), k + j = (tG T).toNat → kvq d σ σ1 → cvA σ1 T M may g N β → 0 ≤ s → s ≤ 2000000 → min s 1000000 = vSm (vCt T may (vf T may d) r) k → J n c_Search_countAnew (some .int) 6 [some (jo 7 0), some (ji x), some (ji may), some (ji ((d : Nat) : Int)), some (jl s), none, some (ji (k : Nat))] [] σ1 (qI Q) := by
    intro j
    induction j with
    | zero =>
      intro k s σ1 hk e1 hA1 s0 s1 hs
      obtain ⟨hT, tx, h2, h3, h4, h5, h6, -⟩ := hA1.1.2.2.1
      refine wp_Search_countAnew_6 ⟨by omega, by omega, ?_⟩
      rw [h3, h6, if_pos (by omega), hs]
      have e : k = (tG T).toNat := by omega
      rw [e]
      have hb := vSm_b (fun k => (hcb k).1) (tG T).toNat
      exact ⟨by omega, ⟨by omega, by omega⟩, hq σ1 e1 hA1⟩
    | succ j ih =>
      intro k s σ1 hk e1 hA1 s0 s1 hs
      have hkG : ((k : Nat) : Int) < tG T := by omega
      have hZ1 := hA1.1
      obtain ⟨hT, tx, h2, h3, h4, h5, h6, -⟩ := hZ1.2.2.1
      have hb := vSm_b (fun k => (hcb k).1) (c := vCt T may (vf T may d) r) k
      have sk : vSm (vCt T may (vf T may d) r) (k + 1) = min (vSm (vCt T may (vf T may d) r) k + vCt T may (vf T may d) r k) 1000000 := rfl
      have hck := hcb k
      refine wp_Search_countAnew_6 ⟨by omega, by omega, ?_⟩
      rw [show rs σ1 10001 (rs σ1 7019 0) = tG T by rw [h3, h6], if_neg (by omega)]
      by_cases qs : 1000000 ≤ s
      · rw [if_pos (by unfold lcm3; rw [if_neg (by omega)]; split <;> omega)]
        have e : vSm (vCt T may (vf T may d) r) k = 1000000 := by omega
        have e2 := vSm_top (fun k => (hcb k).1) e (j + 1)
        rw [hk] at e2
        have := hq σ1 e1 hA1
        rw [e2] at this
        rw [show min s 1000000 = 1000000 by omega]
        exact ⟨by omega, ⟨by omega, by omega⟩, this⟩
      · rw [if_neg (by unfold lcm3; rw [if_pos (by omega)]; decide)]
        have nx0 : ∀ σ2, kvq d σ σ2 → cvA σ2 T M may g N β → vCt T may (vf T may d) r k = 0 → i32 (((k : Nat) : Int) + 1) ∧ J n c_Search_countAnew (some .int) 6 [some (jo 7 0), some (ji x), some (ji may), some (ji ((d : Nat) : Int)), some (jl s), none, some (ji (((k : Nat) : Int) + 1))] [] σ2 (qI Q) := fun σ2 e2 hA2 h0 => ⟨⟨by omega, by omega⟩, ih (k + 1) s σ2 (by omega) e2 hA2 s0 s1 (by rw [sk, h0, ← hs]; omega)⟩
        refine ⟨by omega, c_isIn (by omega) (by omega) ?_⟩
        unfold has1
        by_cases qm : tb may ((k : Nat) : Int) = true
        · rw [if_pos qm, if_neg (by decide)]
          have by1 : (tN T k = 0 ∨ 0 < d) → TrL (n - 1) i_Search_countBy [jo 7 0, ji (k : Nat), ji x, ji may, ji ((d : Nat) : Int)] σ1 (fun zr12 zs11 => i64 (s + zr12) ∧ i32 (((k : Nat) : Int) + 1) ∧ J n c_Search_countAnew (some .int) 6 [some (jo 7 0), some (ji x), some (ji may), some (ji ((d : Nat) : Int)), some (jl (s + zr12)), none, some (ji (((k : Nat) : Int) + 1))] [] zs11 (qI Q)) := fun h0 =>
            c_cby hd3 (by omega) hc hA1 hv hr1 hL hN hzu hkG qm hvar h0 (fun σ2 e2 hA2 => ⟨⟨by omega, by omega⟩, ⟨by omega, by omega⟩, ih (k + 1) _ σ2 (by omega) (e1.tr e2) hA2 (by omega) (by omega) (by rw [sk, ← hs]; omega)⟩)
          by_cases qd : 0 < d
          · rw [if_pos (by omega)]
            exact by1 (Or.inr qd)
          · rw [if_neg (by omega)]
            refine ⟨by omega, ?_⟩
            refine c_nOf (by omega) hZ1.1 hZ1.2.2.1 (by omega) hkG ?_
            by_cases qt : tN T k = 0
            · rw [if_neg (fun w => w qt)]
              exact by1 (Or.inl qt)
            · rw [if_pos qt]
              refine nx0 σ1 e1 hA1 ?_
              have hd0 : d = 0 := by omega
              subst hd0
              by_cases qb : becm (tR T k 0) r
              · rw [vCt_yes ⟨qm, qb⟩, if_neg qt]; rfl
              · exact vCt_no (fun w => qb w.2)
        · rw [if_neg qm, if_pos rfl]
          exact nx0 σ1 e1 hA1 (vCt_no (fun w => qm w.1))
  exact wp_Search_countAnew (loop (tG T).toNat 0 0 σ (by omega) (kvq.rf d σ) hA (by omega) (by omega) (show min (0 : Int) 1000000 = 0 by decide))
theorem c_count (hvar : vNo T may) : ∀ d : Nat, d ≤ 3 → cntC T M may d (12 + 3 * d) := by
  intro d
  induction d with
  | zero =>
    intro _ n σ g N β x L r Q hn hA hv hr1 hL hN hzu hq
    refine wp_Search_count ?_
    rw [if_neg (by decide), if_pos (by decide)]
    refine ⟨by omega, by omega, ?_⟩
    exact c_cnew (d := 0) (by omega) (by omega) (fun d' h => by omega) hA hv hr1 hL hN hzu hvar hq
  | succ d ih =>
    intro hd n σ g N β x L r Q hn hA hv hr1 hL hN hzu hq
    have hcd := ih (by omega)
    have hc2 : ∀ d' : Nat, d + 1 = d' + 1 → cntC T M may d' (12 + 3 * d') := fun d' h => by
      have e : d' = d := by omega
      rw [e]
      exact hcd
    have hZ := hA.1
    have t70 := cC_at hZ.2.1 7000 0 0 (by decide)
    have t77 := cC_at hZ.2.1 7007 0 0 (by decide)
    have t78 := cC_at hZ.2.1 7008 0 243 (by decide)
    have g243 : rl σ 0 243 = 100 := hZ.2.1.2.1 (243, 100) (by decide)
    have hv0 := hv
    obtain ⟨hz, hb, ha, h0, ⟨x0, x1⟩, hx, hcl, -⟩ := hv
    have h104 : ∀ t, t ∈ r → t < 104 := by rw [← hx]; exact ex_lt hz hb ha x0 x1
    refine wp_Search_count ?_
    rw [if_pos (by omega), t70, t78]
    refine ⟨by omega, by omega, by omega, c_flatten (by omega) hA.2.1 ha (by omega) g243 x0 x1 (fun σ1 f1 r1 => ?_)⟩
    rw [hx] at r1
    have e1 : cq (fF 243) σ σ1 := f1.cq (by decide)
    have hA1 : cvA σ1 T M may g N β := hA.cq e1 (hA.2.1.sq f1 (by decide)) (by decide) (by decide) (nofl3 (by decide))
    have k1 : kvq (d + 1) σ σ1 := e1.kvq (by decide) (by decide)
    have hZ1 := hA1.1
    rw [cC_at hZ1.2.1 7007 0 0 (by decide), cC_at hZ1.2.1 7008 0 243 (by decide)]
    refine ⟨by omega, c_cfind (by omega) hZ1.1 hZ1.2.1 hA1.2.2 r1 hcl h104 ?_ ?_⟩
    · rw [if_pos rfl]
      refine c_cnew (d := d + 1) (by omega) (by omega) hc2 hA1 hv0 hr1 hL hN hzu hvar (fun σ2 k2 hA2 => ?_)
      have hZ2 := hA2.1
      have g243b : rl σ2 0 243 = 100 := hZ2.2.1.2.1 (243, 100) (by decide)
      rw [cC_at hZ2.2.1 7000 0 0 (by decide), cC_at hZ2.2.1 7008 0 243 (by decide)]
      refine ⟨by omega, c_flatten (by omega) hA2.2.1 ha (by omega) g243b x0 x1 (fun σ3 f3 r3 => ?_)⟩
      rw [hx] at r3
      have e3 : cq (fF 243) σ2 σ3 := f3.cq (by decide)
      have hA3 : cvA σ3 T M may g N β := hA2.cq e3 (hA2.2.1.sq f3 (by decide)) (by decide) (by decide) (nofl3 (by decide))
      have k3 : kvq (d + 1) σ2 σ3 := e3.kvq (by decide) (by decide)
      have hZ3 := hA3.1
      rw [cC_at hZ3.2.1 7007 0 0 (by decide), cC_at hZ3.2.1 7008 0 243 (by decide)]
      refine ⟨by omega, c_ckeep (d := d + 1) (by omega) hZ3 hA3.2.1 hA3.2.2 r3 hcl h104 (fun σ4 q4 Z4 T4 K4 n4 => ?_)⟩
      exact hq σ4 (((k1.tr k2).tr k3).tr ⟨q4, fun z _ => n4 z⟩) ⟨Z4, T4, K4⟩
    · have hb2 := vl_b (T := T) (may := may) (d + 1) r
      rw [if_neg (by omega)]
      exact hq σ1 k1 hA1
end ZVg
