/-! A node more in a forest: the class. -/
section ZFp
variable {n : Nat} {σ : jS}
/-- the signs of a row are added -/
theorem c_fadd135 {Q : jS → Prop} {fb : Int} {r : List Int} (hn : 3 ≤ n) (hf : fb = 0 ∨ fb = 1) (h0 : 0 ≤ rs σ 3002 fb) (h1 : rs σ 3002 fb ≤ 800000) (hs : rs σ 1 243 = if r.length ≤ 100 then ((r.length : Nat) : Int) else 101) (ht : r.length ≤ 100 → fT σ 243 r) (hq : ∀ σ', cq [(3001, fb), (3002, fb)] σ σ' → rs σ' 3002 fb = rs σ 3002 fb + (if r.length ≤ 100 then ((r.length : Nat) : Int) else 0) → rs σ' 3002 fb ≤ rl σ' 3001 fb → 1 ≤ rl σ' 3001 fb → (r.length ≤ 100 → ∀ j : Nat, j < r.length → ra σ' 3001 fb (rs σ 3002 fb + (j : Nat)) = cc (r.getD j 0)) → (∀ i, 0 ≤ i → i < rs σ 3002 fb → ra σ' 3001 fb i = ra σ 3001 fb i) → Q σ') (hl : rs σ 3002 fb ≤ rl σ 3001 fb) (h2 : 1 ≤ rl σ 3001 fb) : J n c_Forest_add none 135 [some (jo 3 fb), some (jo 0 243), none, none, none, none, none, some (ji 0)] [] σ (qV Q) := by
  by_cases q : r.length ≤ 100
  · have hT := ht q
    rw [if_pos q] at hs
    have loop : ∀ (m i : Nat) (σ1 : jS), i + m = r.length → cq [(3001, fb), (3002, fb)] σ σ1 → rs σ1 3002 fb = rs σ 3002 fb + (i : Nat) → rs σ1 3002 fb ≤ rl σ1 3001 fb → 1 ≤ rl σ1 3001 fb → (∀ j : Nat, j < i → ra σ1 3001 fb (rs σ 3002 fb + (j : Nat)) = cc (r.getD j 0)) → (∀ z, 0 ≤ z → z < rs σ 3002 fb → ra σ1 3001 fb z = ra σ 3001 fb z) → J n c_Forest_add none 135 [some (jo 3 fb), some (jo 0 243), none, none, none, none, none, some (ji (i : Nat))] [] σ1 (qV Q) := by
      intro m
      induction m with
      | zero =>
        intro i σ1 hi c1 c2 c3 c4 c5 c6
        have e1 : rs σ1 1 243 = (r.length : Nat) := by rw [c1.nrs 1 243 (by decide) (by simp)]; exact hs
        refine wp_Forest_add_135 ⟨by omega, ?_⟩
        rw [e1, if_pos (by omega)]
        refine hq σ1 c1 (by rw [c2, if_pos q]; omega) c3 c4 (fun _ j hj => c5 j (by omega)) c6
      | succ m ih =>
        intro i σ1 hi c1 c2 c3 c4 c5 c6
        have e1 : rs σ1 1 243 = (r.length : Nat) := by rw [c1.nrs 1 243 (by decide) (by simp)]; exact hs
        have hT1 : fT σ1 243 r := by
          obtain ⟨t1, t2, t3, t4⟩ := hT
          refine ⟨t1, e1, by rw [c1.nrl 0 243 (by decide) (by simp)]; exact t3, fun j hj => by rw [c1.nraf 0 243 (by decide) (by simp)]; exact t4 j hj⟩
        refine wp_Forest_add_135 ⟨by omega, ?_⟩
        rw [e1, if_neg (by omega), if_neg (by omega)]
        refine ⟨by omega, by omega, c_at hT1 (by omega) ?_⟩
        refine c_addSign (by omega) hf (by omega) (by omega) c3 c4 (fun σ2 d1 d2 d3 d4 d5 d6 => ⟨⟨by omega, by omega⟩, ?_⟩)
        rw [show ((i : Nat) : Int) + 1 = ((i + 1 : Nat) : Int) by omega]
        refine ih (i + 1) σ2 (by omega) (c1.tr d1) (by omega) d3 d4 (fun j hj => ?_) (fun z z0 z1 => ?_)
        · rcases Nat.lt_or_ge j i with w | w
          · rw [d6 _ (by omega) (by omega)]; exact c5 j w
          · have : j = i := by omega
            subst this
            rw [← c2]; exact d5
        · rw [d6 z z0 (by omega)]; exact c6 z z0 z1
    exact loop r.length 0 σ (by omega) (cq.rf _ σ) (by omega) hl h2 (fun j hj => absurd hj (Nat.not_lt_zero j)) (fun _ _ _ => rfl)
  · rw [if_neg q] at hs
    refine wp_Forest_add_135 ⟨by omega, ?_⟩
    rw [hs, if_neg (by omega), if_pos (by omega)]
    exact hq σ (cq.rf _ σ) (by rw [if_neg q]; omega) hl h2 (fun w => absurd w q) (fun _ _ _ => rfl)
end ZFp
