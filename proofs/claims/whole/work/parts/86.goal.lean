/-! A goal is asked: its row of the plan, what is remembered. -/
section ZAg
variable {n : Nat} {σ σ1 : jS} {P : zP} {s : zS} {path : List (Int × Int)} {M : zM}
/-- the plan may grow -/
theorem cB_planq (h : cB σ P s path) (e : cq [(6000, 1), (6001, 1)] σ σ1) (h8 : 0 ≤ rs σ1 6000 1 ∧ rs σ1 6000 1 ≤ sA s ∧ rs σ1 6000 1 * 8 ≤ rl σ1 6001 1 ∧ gr3 (rl σ1 6001 1)) : cB σ1 P s path := by
  obtain ⟨c1, c2, c3, c4, c5, c6, c7, c8, c9, c10⟩ := h
  unfold cB tly
  rw [e.nrs 7015 0 (by decide) (by decide), e.nrs 7016 0 (by decide) (by decide), e.nrs 7014 0 (by decide) (by decide), e.nrs 7018 0 (by decide) (by decide), e.nraf 7002 0 (by decide) (by decide), e.nraf 7010 0 (by decide) (by decide), e.nraf 7011 0 (by decide) (by decide), e.nrs 9002 0 (by decide) (by decide), e.nrl 9007 0 (by decide) (by decide)]
  exact ⟨c1.cq e, c2.cq e (by decide), c3.cq e (by decide) (nofl (by decide)), c4, c5, c6, c7.cq e (by decide) (by decide), h8, c9, e.2.2.2.2 c10⟩
theorem c_addToPlan {Q : Int → jS → Prop} {x a b : Int} (hn : 3 ≤ n) (hB : cB σ P s path) (hA : rs σ 6000 1 + 1 ≤ sA s) (hA2 : sA s ≤ 200) (hq : ∀ σ', cq [(6000, 1), (6001, 1)] σ σ' → rs σ' 6000 1 = rs σ 6000 1 + 1 → cB σ' P s path → (∀ i, 0 ≤ i → i < rs σ 6000 1 * 8 → ra σ' 6001 1 i = ra σ 6001 1 i) → ra σ' 6001 1 (rs σ 6000 1 * 8 + 1) = a → ra σ' 6001 1 (rs σ 6000 1 * 8 + 2) = b → ra σ' 6001 1 (rs σ 6000 1 * 8 + 6) = x → ra σ' 6001 1 (rs σ 6000 1 * 8 + 7) = -1 → Q (rs σ 6000 1) σ') : TrI n i_Search_addToPlan [jo 7 0, ji x, ji a, ji b] σ Q := by
  have t76 := cC_at hB.2.1 7006 0 1 (by decide)
  obtain ⟨p0, p1, p2, p3⟩ := hB.2.2.2.2.2.2.2.1
  refine wp_Search_addToPlan ⟨by omega, by omega, by omega, ?_⟩
  rw [t76]
  refine c_nadd (o := 1) (by omega) (Or.inl (Or.inr rfl)) p0 (by omega) p2 p3 (fun σ1 q1 g1 g2 g3 g4 => ?_)
  have B1 : cB σ1 P s path := cB_planq hB q1 ⟨by omega, by omega, by omega, g3⟩
  have l1 : rl σ1 6001 1 ≤ 200000 := by unfold gr3 at g3; omega
  have st : ∀ (c : Nat) (v : Int) (σ2 : jS) (K : jS → Prop), c < 8 → sq [(6001, 1)] σ1 σ2 → (∀ σ3, sq [(6001, 1)] σ1 σ3 → ra σ3 6001 1 = upI (ra σ2 6001 1) (rs σ 6000 1 * 8 + ((c : Nat) : Int)) v → K σ3) → 0 ≤ rs σ2 7006 0 ∧ TrV (n - 1) i_Nodes_set [jo 6 (rs σ2 7006 0), ji (rs σ 6000 1), ji ((c : Nat) : Int), ji v] σ2 K := by
    intro c v σ2 K hc f2 hk
    have e7 : rs σ2 7006 0 = 1 := by rw [f2.nrs 7006 0 (by decide)]; exact cC_at B1.2.1 7006 0 1 (by decide)
    rw [e7]
    refine ⟨by omega, c_nset (by omega) p0 (by rw [f2.nrs 6000 1 (by decide)]; omega) hc (by rw [f2.nrs 6000 1 (by decide), f2.nrl 6001 1]; omega) (by rw [f2.nrl 6001 1]; exact l1) (hk _ (f2.pwa 6001 1 _ _ (by decide)) ?_)⟩
    unfold wa
    rw [raf_wA, if_pos ⟨rfl, rfl⟩]
  refine st 1 a σ1 _ (by decide) (sq.rf _ σ1) (fun σ2 f2 r2 => ?_)
  refine st 2 b σ2 _ (by decide) f2 (fun σ3 f3 r3 => ?_)
  refine st 6 x σ3 _ (by decide) f3 (fun σ4 f4 r4 => ?_)
  refine st 7 (-1) σ4 _ (by decide) f4 (fun σ5 f5 r5 => ?_)
  have q5 := f5.cq (l' := [(6000, 1), (6001, 1)]) (by decide)
  have rd : ∀ i, ra σ5 6001 1 i = if i = rs σ 6000 1 * 8 + 7 then -1 else if i = rs σ 6000 1 * 8 + 6 then x else if i = rs σ 6000 1 * 8 + 2 then b else if i = rs σ 6000 1 * 8 + 1 then a else ra σ1 6001 1 i := fun i => by
    rw [r5, r4, r3, r2]
    rfl
  refine hq σ5 (q1.tr q5) (by rw [f5.nrs 6000 1 (by decide)]; exact g1) (cB_plan B1 (f5.mo (by decide)) (by rw [f5.nrs 6000 1 (by decide)]; omega) (by rw [f5.nrs 6000 1 (by decide)]; exact Int.le_refl _)) (fun i i0 i1 => ?_) ?_ ?_ ?_ ?_
  · rw [rd, if_neg (by omega), if_neg (by omega), if_neg (by omega), if_neg (by omega)]
    exact g4 i i0 i1
  · rw [rd, if_neg (by omega), if_neg (by omega), if_neg (by omega), if_pos rfl]
  · rw [rd, if_neg (by omega), if_neg (by omega), if_pos rfl]
  · rw [rd, if_neg (by omega), if_pos rfl]
  · rw [rd, if_pos rfl]
theorem c_find {Q : Int → jS → Prop} {sc : Int} {r : List Int} (hn : 2 ≤ n) (hc : cln σ) (hM : memR σ M) (hr : fT σ 243 r) (hl : r.length ≤ 100) (ht : ∀ t, t ∈ r → t < 104) (hq : Q (match fndM M sc r with
    | some j => ((j : Nat) : Int)
    | none => -1) σ) : TrI n i_Memory_find [jo 5 0, ji sc, jo 0 243] σ Q := by
  obtain ⟨h1, h2, h3, -⟩ := hM
  have l4 : rl σ 5004 0 = 40 := cln_at hc 5004 0 40 (by decide)
  have l5 : rl σ 5005 0 = 40 := cln_at hc 5005 0 40 (by decide)
  have loop : ∀ (m j : Nat), j + m = M.length → (∀ i, (hi : i < M.length) → i < j → ¬ ((M[i]).1 = sc ∧ (M[i]).2.1 = r)) → J n c_Memory_find (some .int) 2 [some (jo 5 0), some (ji sc), some (jo 0 243), some (ji (j : Nat))] [] σ (qI Q) := by
    intro m
    induction m with
    | zero =>
      intro j hj hno
      refine wp_Memory_find_2 ⟨by omega, ?_⟩
      rw [h1, if_pos (by omega)]
      have e : fndM M sc r = none := by
        unfold fndM
        rw [List.findIdx?_eq_none_iff]
        intro e he
        obtain ⟨i, hi, e2⟩ := List.getElem_of_mem he
        have := hno i hi (by omega)
        rw [e2] at this
        exact decide_eq_false this
      rw [e] at hq
      exact hq
    | succ m ih =>
      intro j hj hno
      have hjl : j < M.length := by omega
      obtain ⟨c1, c2, c3, c4, c5, c6, c7, c8, -⟩ := h3 j hjl
      have nx : ¬ ((M[j]).1 = sc ∧ (M[j]).2.1 = r) → i32 (((j : Nat) : Int) + 1) ∧ J n c_Memory_find (some .int) 2 [some (jo 5 0), some (ji sc), some (jo 0 243), some (ji (((j : Nat) : Int) + 1))] [] σ (qI Q) := fun w => by
        refine ⟨⟨by omega, by omega⟩, ?_⟩
        rw [show ((j : Nat) : Int) + 1 = ((j + 1 : Nat) : Int) by omega]
        refine ih (j + 1) (by omega) (fun i hi hij => ?_)
        rcases Nat.lt_or_ge i j with q | q
        · exact hno i hi q
        · have : i = j := by omega
          subst this
          exact w
      refine wp_Memory_find_2 ⟨by omega, ?_⟩
      rw [h1, if_neg (by omega), l4, l5, c1]
      refine ⟨by omega, by omega, by omega, ?_⟩
      by_cases q : (M[j]).1 = sc
      · rw [if_neg (fun w => w q), if_neg (by omega)]
        refine ⟨by omega, by omega, by omega, by omega, by omega, c_isSame (by omega) c6 hr (by omega) (by omega) c8 ht ?_⟩
        by_cases q2 : (M[j]).2.1 = r
        · rw [show (if (M[j]).2.1 = r then (1 : Int) else 0) = 1 from if_pos q2, if_neg (by decide)]
          have e : fndM M sc r = some j := by
            unfold fndM
            rw [List.findIdx?_eq_some_iff_getElem]
            refine ⟨hjl, decide_eq_true ⟨q, q2⟩, fun i hij w => hno i (by omega) hij (of_decide_eq_true w)⟩
          rw [e] at hq
          exact hq
        · rw [show (if (M[j]).2.1 = r then (1 : Int) else 0) = 0 from if_neg q2, if_pos rfl]
          exact nx (fun w => q2 w.2)
      · rw [if_pos q]
        exact nx (fun w => q w.1)
  exact wp_Memory_find (loop M.length 0 (by omega) (fun i hi h => absurd h (Nat.not_lt_zero i)))
end ZAg
