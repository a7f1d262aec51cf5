/-! The law's loop: call by call, both answer alike. -/
/-- it ends with 1, the class as it stands between two calls -/
def lwR (r : Int) (σ : jS) : Prop := r = 1 ∧ ∃ A, cI σ A
section ZAf
variable {n : Nat} {σ σ1 σ2 : jS} {L : Int}
set_option maxHeartbeats 4000000 in
set_option maxRecDepth 16000 in
theorem law_loop (hn : n = 128) (hL0 : 0 ≤ L) (hL : L ≤ 3072) : ∀ (m : Nat) (k : Int) (σ : jS), L - k ≤ ((m : Nat) : Int) → 0 ≤ k → rl σ 800000 0 = L → (∃ A, cI σ A ∧ mI σ A ∧ pI A) → J n ax_cL (some .boolean) 18 [some (ja 800000 0), some (jo 12 0), some (jo 1 0), some (ji k)] [] σ (qI lwR) := by
  intro m
  have hn1 : n - 1 = 127 := by omega
  induction m with
  | zero =>
    intro k σ hk k0 hl hA
    obtain ⟨A, hc, hm, hp⟩ := hA
    refine wp_law_18 ⟨by rw [hl]; exact ⟨by omega, by omega⟩, ?_⟩
    rw [if_pos (by omega)]
    exact ⟨rfl, A, hc⟩
  | succ m ih =>
    intro k σ hk k0 hl hA
    obtain ⟨A, hc, hm, hp⟩ := hA
    refine wp_law_18 ⟨by rw [hl]; exact ⟨by omega, by omega⟩, ?_⟩
    by_cases q : rl σ 800000 0 - 6 < k
    · rw [if_pos q]
      exact ⟨rfl, A, hc⟩
    rw [if_neg q]
    have nx : ∀ σ2, scq σ σ2 → (∃ A, cI σ2 A ∧ mI σ2 A ∧ pI A) → i32 (k + 6) ∧ J n ax_cL (some .boolean) 18 [some (ja 800000 0), some (jo 12 0), some (jo 1 0), some (ji (k + 6))] [] σ2 (qI lwR) := fun σ2 sc hA => ⟨⟨by omega, by omega⟩, ih (k + 6) σ2 (by omega) (by omega) (by rw [sc.2]; exact hl) hA⟩
    have tl : ∀ (r r' : Int) (σ2 : jS), bOK σ r r' σ2 → (if r = r' then i32 (k + 6) ∧ J n ax_cL (some .boolean) 18 [some (ja 800000 0), some (jo 12 0), some (jo 1 0), some (ji (k + 6))] [] σ2 (qI lwR) else lwR 0 σ2) := fun r r' σ2 ⟨e, sc, hA⟩ => by
      rw [if_pos e]
      exact nx σ2 sc hA
    refine ⟨k0, by omega, ?_⟩
    by_cases h0 : bAnd (ra σ 800000 0 k) 31 = 0
    · rw [if_pos h0]
      refine ⟨by omega, ⟨by omega, by omega⟩, by omega, by omega, ⟨by omega, by omega⟩, by omega, by omega, ⟨by omega, by omega⟩, by omega, by omega, ⟨by omega, by omega⟩, by omega, by omega, ⟨by omega, by omega⟩, by omega, by omega, by omega, TrI.mo (bo_feed hn1 hc hm hp) (fun r σ1 ⟨sc, h⟩ => ?_)⟩
      rw [sc.1, sc.2]
      exact ⟨by omega, by omega, by omega, by omega, by omega, by omega, TrI.mo h (fun r' σ2 hb => tl r r' σ2 hb)⟩
    rw [if_neg h0]
    by_cases h1 : bAnd (ra σ 800000 0 k) 31 = 1
    · rw [if_pos h1]
      refine ⟨by omega, ⟨by omega, by omega⟩, by omega, by omega, by omega, TrI.mo (bo_end hn1 hc hm hp) (fun r σ1 ⟨sc, h⟩ => ?_)⟩
      rw [sc.1, sc.2]
      exact ⟨by omega, by omega, TrI.mo h (fun r' σ2 hb => tl r r' σ2 hb)⟩
    rw [if_neg h1]
    by_cases h2 : bAnd (ra σ 800000 0 k) 31 = 2
    · rw [if_pos h2]
      refine ⟨by omega, by omega, TrI.mo (bo_scopes hn1 hc hm hp) (fun r σ1 ⟨sc, h⟩ => ?_)⟩
      exact ⟨by omega, TrI.mo h (fun r' σ2 hb => tl r r' σ2 hb)⟩
    rw [if_neg h2]
    by_cases h3 : bAnd (ra σ 800000 0 k) 31 = 3
    · rw [if_pos h3]
      refine ⟨by omega, by omega, TrI.mo (bo_fault hn1 hc hm hp) (fun r σ1 ⟨sc, h⟩ => ?_)⟩
      exact ⟨by omega, TrI.mo h (fun r' σ2 hb => tl r r' σ2 hb)⟩
    rw [if_neg h3]
    by_cases h4 : bAnd (ra σ 800000 0 k) 31 = 4
    · rw [if_pos h4]
      refine ⟨by omega, ⟨by omega, by omega⟩, by omega, by omega, by omega, TrI.mo (bo_is hn1 hc hm hp) (fun r σ1 ⟨sc, h⟩ => ?_)⟩
      rw [sc.1, sc.2]
      exact ⟨by omega, by omega, TrI.mo h (fun r' σ2 hb => tl r r' σ2 hb)⟩
    rw [if_neg h4]
    by_cases h5 : bAnd (ra σ 800000 0 k) 31 = 5
    · rw [if_pos h5]
      refine ⟨by omega, ⟨by omega, by omega⟩, by omega, by omega, ⟨by omega, by omega⟩, by omega, by omega, by omega, TrI.mo (bo_scope hn1 hc hm hp) (fun r σ1 ⟨sc, h⟩ => ?_)⟩
      rw [sc.1, sc.2]
      exact ⟨by omega, by omega, by omega, TrI.mo h (fun r' σ2 hb => tl r r' σ2 hb)⟩
    rw [if_neg h5]
    by_cases h6 : bAnd (ra σ 800000 0 k) 31 = 6
    · rw [if_pos h6]
      refine ⟨by omega, ⟨by omega, by omega⟩, by omega, by omega, ⟨by omega, by omega⟩, by omega, by omega, by omega, TrI.mo (bo_given hn1 hc hm hp) (fun r σ1 ⟨sc, h⟩ => ?_)⟩
      rw [sc.1, sc.2]
      exact ⟨by omega, by omega, by omega, TrI.mo h (fun r' σ2 hb => tl r r' σ2 hb)⟩
    rw [if_neg h6]
    by_cases h7 : bAnd (ra σ 800000 0 k) 31 = 7
    · rw [if_pos h7]
      refine ⟨by omega, ⟨by omega, by omega⟩, by omega, by omega, ⟨by omega, by omega⟩, by omega, by omega, ?_⟩
      by_cases w : ra σ 800000 0 (k + 2) = 0
      · rw [if_pos w]
        refine ⟨by omega, TrI.mo (bo_out (v := 0) hn1 hc hm hp) (fun r σ1 ⟨sc, h⟩ => ?_)⟩
        rw [sc.1, sc.2]
        refine ⟨by omega, by omega, by omega, ?_⟩
        rw [if_pos w]
        exact TrI.mo h (fun r' σ2 hb => tl r r' σ2 hb)
      · rw [if_neg w]
        refine ⟨by omega, TrI.mo (bo_out (v := 1) hn1 hc hm hp) (fun r σ1 ⟨sc, h⟩ => ?_)⟩
        rw [sc.1, sc.2]
        refine ⟨by omega, by omega, by omega, ?_⟩
        rw [if_neg w]
        exact TrI.mo h (fun r' σ2 hb => tl r r' σ2 hb)
    rw [if_neg h7]
    by_cases h8 : bAnd (ra σ 800000 0 k) 31 = 8
    · rw [if_pos h8]
      refine ⟨by omega, ⟨by omega, by omega⟩, by omega, by omega, ⟨by omega, by omega⟩, by omega, by omega, ?_⟩
      by_cases w : ra σ 800000 0 (k + 2) = 0
      · rw [if_pos w]
        refine ⟨by omega, TrI.mo (bo_shut (v := 0) hn1 hc hm hp) (fun r σ1 ⟨sc, h⟩ => ?_)⟩
        rw [sc.1, sc.2]
        refine ⟨by omega, by omega, by omega, ?_⟩
        rw [if_pos w]
        exact TrI.mo h (fun r' σ2 hb => tl r r' σ2 hb)
      · rw [if_neg w]
        refine ⟨by omega, TrI.mo (bo_shut (v := 1) hn1 hc hm hp) (fun r σ1 ⟨sc, h⟩ => ?_)⟩
        rw [sc.1, sc.2]
        refine ⟨by omega, by omega, by omega, ?_⟩
        rw [if_neg w]
        exact TrI.mo h (fun r' σ2 hb => tl r r' σ2 hb)
    rw [if_neg h8]
    by_cases h9 : bAnd (ra σ 800000 0 k) 31 = 9
    · rw [if_pos h9]
      refine ⟨by omega, ⟨by omega, by omega⟩, by omega, by omega, ⟨by omega, by omega⟩, by omega, by omega, by omega, TrI.mo (bo_special hn1 hc hm hp) (fun r σ1 ⟨sc, h⟩ => ?_)⟩
      rw [sc.1, sc.2]
      exact ⟨by omega, by omega, by omega, TrI.mo h (fun r' σ2 hb => tl r r' σ2 hb)⟩
    rw [if_neg h9]
    by_cases h10 : bAnd (ra σ 800000 0 k) 31 = 10
    · rw [if_pos h10]
      refine ⟨by omega, by omega, TrI.mo (bo_clashes hn1 hc hm hp) (fun r σ1 ⟨sc, h⟩ => ?_)⟩
      exact ⟨by omega, TrI.mo h (fun r' σ2 hb => tl r r' σ2 hb)⟩
    rw [if_neg h10]
    by_cases h11 : bAnd (ra σ 800000 0 k) 31 = 11
    · rw [if_pos h11]
      refine ⟨by omega, ⟨by omega, by omega⟩, by omega, by omega, by omega, TrI.mo (bo_type hn1 hc hm hp) (fun r σ1 ⟨sc, h⟩ => ?_)⟩
      rw [sc.1, sc.2]
      exact ⟨by omega, by omega, TrI.mo h (fun r' σ2 hb => tl r r' σ2 hb)⟩
    rw [if_neg h11]
    by_cases h12 : bAnd (ra σ 800000 0 k) 31 = 12
    · rw [if_pos h12]
      refine ⟨by omega, ⟨by omega, by omega⟩, by omega, by omega, ⟨by omega, by omega⟩, by omega, by omega, ⟨by omega, by omega⟩, by omega, by omega, by omega, TrI.mo (bo_relation hn1 hc hm hp) (fun r σ1 ⟨sc, h⟩ => ?_)⟩
      rw [sc.1, sc.2]
      exact ⟨by omega, by omega, by omega, by omega, TrI.mo h (fun r' σ2 hb => tl r r' σ2 hb)⟩
    rw [if_neg h12]
    by_cases h13 : bAnd (ra σ 800000 0 k) 31 = 13
    · rw [if_pos h13]
      refine ⟨by omega, ⟨by omega, by omega⟩, by omega, by omega, ⟨by omega, by omega⟩, by omega, by omega, by omega, TrI.mo (bo_unified hn1 hc hm hp) (fun r σ1 ⟨sc, h⟩ => ?_)⟩
      rw [sc.1, sc.2]
      exact ⟨by omega, by omega, by omega, TrI.mo h (fun r' σ2 hb => tl r r' σ2 hb)⟩
    rw [if_neg h13]
    by_cases h14 : bAnd (ra σ 800000 0 k) 31 = 14
    · rw [if_pos h14]
      refine ⟨by omega, ⟨by omega, by omega⟩, by omega, by omega, by omega, TrI.mo (bo_ask hn1 hc hm hp) (fun r σ1 ⟨sc, h⟩ => ?_)⟩
      rw [sc.1, sc.2]
      exact ⟨by omega, by omega, TrI.mo h (fun r' σ2 hb => tl r r' σ2 hb)⟩
    rw [if_neg h14]
    by_cases h15 : bAnd (ra σ 800000 0 k) 31 = 15
    · rw [if_pos h15]
      refine ⟨by omega, ⟨by omega, by omega⟩, by omega, by omega, by omega, TrI.mo (bo_asked hn1 hc hm hp) (fun r σ1 ⟨sc, h⟩ => ?_)⟩
      rw [sc.1, sc.2]
      exact ⟨by omega, by omega, TrI.mo h (fun r' σ2 hb => tl r r' σ2 hb)⟩
    rw [if_neg h15]
    by_cases h16 : bAnd (ra σ 800000 0 k) 31 = 16
    · rw [if_pos h16]
      refine ⟨by omega, ⟨by omega, by omega⟩, by omega, by omega, ⟨by omega, by omega⟩, by omega, by omega, by omega, TrI.mo (bo_node hn1 hc hm hp) (fun r σ1 ⟨sc, h⟩ => ?_)⟩
      rw [sc.1, sc.2]
      exact ⟨by omega, by omega, by omega, TrI.mo h (fun r' σ2 hb => tl r r' σ2 hb)⟩
    rw [if_neg h16]
    by_cases h17 : bAnd (ra σ 800000 0 k) 31 = 17
    · rw [if_pos h17]
      refine ⟨by omega, ⟨by omega, by omega⟩, by omega, by omega, by omega, TrI.mo (bo_writeGoal hn1 hc hm hp) (fun r σ1 ⟨sc, h⟩ => ?_)⟩
      rw [sc.1, sc.2]
      exact ⟨by omega, by omega, TrI.mo h (fun r' σ2 hb => tl r r' σ2 hb)⟩
    rw [if_neg h17]
    by_cases h18 : bAnd (ra σ 800000 0 k) 31 = 18
    · rw [if_pos h18]
      refine ⟨by omega, by omega, TrI.mo (bo_writeTree hn1 hc hm hp) (fun r σ1 ⟨sc, h⟩ => ?_)⟩
      exact ⟨by omega, TrI.mo h (fun r' σ2 hb => tl r r' σ2 hb)⟩
    rw [if_neg h18]
    by_cases h19 : bAnd (ra σ 800000 0 k) 31 = 19
    · rw [if_pos h19]
      refine ⟨by omega, by omega, TrI.mo (bo_writeAnswer hn1 hc hm hp) (fun r σ1 ⟨sc, h⟩ => ?_)⟩
      exact ⟨by omega, TrI.mo h (fun r' σ2 hb => tl r r' σ2 hb)⟩
    rw [if_neg h19]
    by_cases h20 : bAnd (ra σ 800000 0 k) 31 = 20
    · rw [if_pos h20]
      refine ⟨by omega, ⟨by omega, by omega⟩, by omega, by omega, by omega, TrI.mo (bo_both hn1 hc hm hp) (fun r σ1 ⟨sc, h⟩ => ?_)⟩
      rw [sc.1, sc.2]
      exact ⟨by omega, by omega, TrI.mo h (fun r' σ2 hb => tl r r' σ2 hb)⟩
    rw [if_neg h20]
    by_cases h21 : bAnd (ra σ 800000 0 k) 31 = 21
    · rw [if_pos h21]
      refine ⟨by omega, ⟨by omega, by omega⟩, by omega, by omega, by omega, TrI.mo (bo_octet hn1 hc hm hp) (fun r σ1 ⟨sc, h⟩ => ?_)⟩
      rw [sc.1, sc.2]
      exact ⟨by omega, by omega, TrI.mo h (fun r' σ2 hb => tl r r' σ2 hb)⟩
    rw [if_neg h21]
    by_cases h22 : bAnd (ra σ 800000 0 k) 31 = 22
    · rw [if_pos h22]
      refine ⟨by omega, ⟨by omega, by omega⟩, by omega, by omega, by omega, TrI.mo (bo_without hn1 hc hm hp) (fun r σ1 ⟨sc, h⟩ => ?_)⟩
      rw [sc.1, sc.2]
      exact ⟨by omega, by omega, TrI.mo h (fun r' σ2 hb => tl r r' σ2 hb)⟩
    rw [if_neg h22]
    by_cases h23 : bAnd (ra σ 800000 0 k) 31 = 23
    · rw [if_pos h23]
      refine ⟨by omega, by omega, TrI.mo (bo_needed hn1 hc hm hp) (fun r σ1 ⟨sc, h⟩ => ?_)⟩
      exact ⟨by omega, TrI.mo h (fun r' σ2 hb => tl r r' σ2 hb)⟩
    rw [if_neg h23]
    by_cases h24 : bAnd (ra σ 800000 0 k) 31 = 24
    · rw [if_pos h24]
      refine ⟨by omega, by omega, TrI.mo (bo_mends hn1 hc hm hp) (fun r σ1 ⟨sc, h⟩ => ?_)⟩
      exact ⟨by omega, TrI.mo h (fun r' σ2 hb => tl r r' σ2 hb)⟩
    rw [if_neg h24]
    by_cases h25 : bAnd (ra σ 800000 0 k) 31 = 25
    · rw [if_pos h25]
      refine ⟨by omega, ⟨by omega, by omega⟩, by omega, by omega, ⟨by omega, by omega⟩, by omega, by omega, ⟨by omega, by omega⟩, by omega, by omega, by omega, TrI.mo (bo_candidates hn1 hc hm hp) (fun r σ1 ⟨sc, h⟩ => ?_)⟩
      rw [sc.1, sc.2]
      exact ⟨by omega, by omega, by omega, by omega, TrI.mo h (fun r' σ2 hb => tl r r' σ2 hb)⟩
    rw [if_neg h25]
    by_cases h26 : bAnd (ra σ 800000 0 k) 31 = 26
    · rw [if_pos h26]
      refine ⟨by omega, ⟨by omega, by omega⟩, by omega, by omega, ⟨by omega, by omega⟩, by omega, by omega, ⟨by omega, by omega⟩, by omega, by omega, by omega, TrI.mo (bo_values hn1 hc hm hp) (fun r σ1 ⟨sc, h⟩ => ?_)⟩
      rw [sc.1, sc.2]
      exact ⟨by omega, by omega, by omega, by omega, TrI.mo h (fun r' σ2 hb => tl r r' σ2 hb)⟩
    rw [if_neg h26]
    exact nx σ (scq.rf σ) ⟨A, hc, hm, hp⟩
end ZAf
