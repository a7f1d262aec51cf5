/-! A type is read from a tape, as a whole: the class. -/
section ZRg
variable {n : Nat} {σ0 σ σ1 : jS} {D row : List Int} {a : Nat} {st : List Nat} {o : Int}
set_option maxRecDepth 8000 in
theorem c_readOne {Q : Int → jS → Prop} (hn : 6 ≤ n) (hm : cln σ) (hD : cTp σ D) (ha : a ≤ D.length) (h1 : rs σ 8001 0 = ((a : Nat) : Int)) (o0 : 0 ≤ o) (hl12 : rl σ 0 o = 12)
    (hq1 : (rdT D a).1 = true → ∀ σ', sq (tyF o) σ σ' → rs σ' 8001 0 = (((rdT D a).2.1 : Nat) : Int) → fT σ' o (rdT D a).2.2 → Q 1 σ')
    (hq0 : (rdT D a).1 = false → ∀ σ', sq (tyF o) σ σ' → rs σ' 8001 0 = (((rdT D a).2.1 : Nat) : Int) → Q 0 σ') : TrI n i_Tape_readOne [jo 8 0, jo 0 o] σ Q := by
  have hD800 := hD.2.1
  have loop : ∀ (k : Nat) (row : List Int) (st : List Nat) (a1 : Nat) (σ1 : jS) (i : Int), row.length + k = 12 → i = ((row.length : Nat) : Int) → a1 ≤ D.length → (∀ t, t ∈ row → thg t) → (∀ p, p ∈ st → p < row.length ∧ 0 ≤ row.getD p 0 ∧ ¬ row.getD p 0 % 4 = 0) → st.length ≤ row.length → tyC σ σ1 o a1 row st → rdS D k a1 row st = rdT D a → J n c_Tape_readOne (some .boolean) 8 [some (jo 8 0), some (jo 0 o), some (ji ((st.length : Nat) : Int)), some (ji i), none] [] σ1 (qI Q) := by
    intro k
    induction k with
    | zero =>
      intro row st a1 σ1 i hl hi ha1 hg hst hsl hI hS
      obtain ⟨e, i2, i3, i5⟩ := hI
      have hS2 : (false, a1, row) = rdT D a := hS
      refine wp_Tape_readOne_8 ?_
      rw [if_pos (by omega)]
      exact hq0 (by rw [← hS2]) σ1 e (by rw [← hS2]; exact i2)
    | succ k ih =>
      intro row st a1 σ1 i hl hi ha1 hg hst hsl hI hS
      obtain ⟨e, i2, i3, i5⟩ := hI
      have hm1 : cln σ1 := hm.sq e
      have hD1 : cTp σ1 D := hD.ty e
      have hl1 : rl σ1 0 o = 12 := by rw [e.nrl]; exact hl12
      have hbr := tpN_rng (D := D) (a := a1) hD.2.2.2
      unfold rdS at hS
      refine wp_Tape_readOne_8 ?_
      rw [if_neg (by omega)]
      by_cases qq : (65 ≤ tpN D a1 ∧ tpN D a1 ≤ 90) ∨ (97 ≤ tpN D a1 ∧ tpN D a1 ≤ 122)
      · rw [if_neg (fun w => w qq)] at hS
        have ha2 := tpN_lt (D := D) (a := a1) (by omega)
        have l03 := cln_at hm1 8003 0 12 (by decide)
        generalize ht0 : (if tpN D a1 ≤ 90 then 4 * (tpN D a1 - 65) else -1 - (tpN D a1 - 97)) = t at hS
        have tg : thg t := by
          rw [← ht0]
          unfold thg
          split <;> omega
        have hg2 : ∀ s, s ∈ row ++ [t] → thg s := fun s hs => by
          rcases List.mem_append.mp hs with w | w
          · exact hg s w
          · rw [List.mem_singleton] at w
            rw [w]; exact tg
        have hlen1 : (row ++ [t]).length = row.length + 1 := by rw [List.length_append]; rfl
        have hst2 : ∀ p, p ∈ st → p < (row ++ [t]).length ∧ (row ++ [t]).getD p 0 = row.getD p 0 ∧ 0 ≤ row.getD p 0 ∧ ¬ row.getD p 0 % 4 = 0 := fun p hp => by
          obtain ⟨o1, o2, o3⟩ := hst p hp
          refine ⟨by omega, ?_, o2, o3⟩
          rw [List.getD_eq_getElem?_getD, List.getElem?_append_left o1, ← List.getD_eq_getElem?_getD]
        -- behind the thing, no ( being there
        have shut : ∀ s15, sq (tyF o) σ s15 → rs s15 8001 0 = ((a1 + 1 : Nat) : Int) → fT s15 o (row ++ [t]) → (∀ i : Nat, i < st.length → ra s15 8003 0 (((st.length : Nat) : Int) - 1 - ((i : Nat) : Int)) = ((st.getD i 0 : Nat) : Int)) → ¬ (tpN D a1 ≤ 90 ∧ tpN D (a1 + 1) = 40) → TrI (n - 1) i_Tape_close [jo 8 0, ji ((st.length : Nat) : Int)] s15 (fun zr17 zs16 => J n c_Tape_readOne (some .boolean) 123 [some (jo 8 0), some (jo 0 o), some (ji zr17), some (ji i), none] [] zs16 (qI Q)) := by
          intro s15 e15 r15 f15 st15 hno
          have hcl2 := clsS_le (D := D) (st := st) (a := a1 + 1) (by omega)
          rw [if_neg hno] at hS
          refine c_close (D := D) (a := a1 + 1) (st := st) (by omega) (hm.sq e15) (hD.ty e15) (fun s16 e16 r16 => ?_) r15 (by omega)
          have E16 : sq (tyF o) σ s16 := e15.tr (e16.mo (by unfold tyF; simp))
          have f16 : fT s16 o (row ++ [t]) := f15.sq e16 (by decide)
          have l3 := cln_at (hm.sq E16) 8003 0 12 (by decide)
          refine wp_Tape_readOne_123 ?_
          cases hc : clsS D (a1 + 1) st with
          | mk a' st2 =>
            rw [hc] at hS r16 hcl2
            obtain ⟨l1, l2, l3', l4⟩ := hcl2
            dsimp only at l1 l2 l3' l4 r16 hS
            cases st2 with
            | nil =>
              dsimp only at hS
              rw [if_neg (fun w => w rfl)]
              rw [← hS] at hq1
              exact hq1 rfl s16 E16 r16 f16
            | cons p st' =>
              dsimp only at hS
              rw [List.length_cons] at l3' ⊢
              rw [if_pos (by omega)]
              obtain ⟨p1, p2, p3, p4⟩ := hst2 p (l4 p List.mem_cons_self)
              have og : thg ((row ++ [t]).getD p 0) := by
                rw [List.getD_eq_getElem?_getD, List.getElem?_eq_getElem p1]
                exact hg2 _ (List.getElem_mem _)
              unfold thg at og
              -- the pile is the lower end of what it was
              have hsuf : ∀ (b : Nat) (s : List Nat), ∃ pre, s = pre ++ (clsS D b s).2 := by
                intro b s
                induction s generalizing b with
                | nil => exact ⟨[], rfl⟩
                | cons y s ihs =>
                  unfold clsS
                  by_cases q : tpN D b = 41
                  · rw [if_pos q]
                    obtain ⟨pre, hpre⟩ := ihs (b + 1)
                    exact ⟨y :: pre, congrArg (y :: ·) hpre⟩
                  · rw [if_neg q]
                    exact ⟨[], rfl⟩
              obtain ⟨pre, hpre⟩ := hsuf (a1 + 1) st
              rw [hc] at hpre
              dsimp only at hpre
              have hlp : st.length = pre.length + (st'.length + 1) := by rw [hpre, List.length_append, List.length_cons]
              have st16 : ∀ i : Nat, i < st'.length + 1 → ra s16 8003 0 (((st'.length + 1 : Nat) : Int) - 1 - ((i : Nat) : Int)) = (((p :: st').getD i 0 : Nat) : Int) := fun i hi => by
                rw [e16.nra 8003 0 _ (by decide)]
                have := st15 (pre.length + i) (by omega)
                rw [show ((st'.length + 1 : Nat) : Int) - 1 - ((i : Nat) : Int) = ((st.length : Nat) : Int) - 1 - ((pre.length + i : Nat) : Int) by omega, this, hpre, List.getD_eq_getElem?_getD, List.getElem?_append_right (by omega), show pre.length + i - pre.length = i by omega, ← List.getD_eq_getElem?_getD]
              have etop : ra s16 8003 0 (((st'.length + 1 : Nat) : Int) - 1) = ((p : Nat) : Int) := by
                have := st16 0 (by omega)
                rw [show ((st'.length + 1 : Nat) : Int) - 1 = ((st'.length + 1 : Nat) : Int) - 1 - ((0 : Nat) : Int) by omega]
                exact this
              rw [etop]
              refine ⟨by omega, o0, by omega, ⟨by omega, by omega⟩, by omega, by omega, by omega, c_nextPart (D := D) (a := a') (row := row ++ [t]) (by omega) (hm.sq E16) (hD.ty E16) r16 f16 (by rw [E16.nrl]; exact hl12) p1 (by omega) (by rw [p2]; exact p3) (by omega) (fun w => ?_) (fun w1 w2 σ' q' r' f' => ?_)⟩
              · rw [if_neg (fun w => w rfl)]
                have hw : (row ++ [t]).getD p 0 % 4 = 3 ∨ ¬ tpN D a' = 44 := by
                  rcases w with w | w
                  · exact Or.inl w
                  · rw [if_neg (by rw [p2]; exact p4)] at w
                    exact Or.inr w
                rw [if_pos hw] at hS
                rw [← hS] at hq0
                exact hq0 rfl s16 E16 r16
              · rw [if_neg (by rw [p2]; exact p4)] at w2
                rw [if_neg (fun w => by rcases w with w | w; exact w1 w; exact w w2)] at hS
                have ha4 := tpN_lt (D := D) (a := a') (by rw [w2]; decide)
                rw [if_pos (by decide)]
                refine ⟨⟨by omega, by omega⟩, ?_⟩
                have := ih ((row ++ [t]).set p ((row ++ [t]).getD p 0 + 1)) (p :: st') (a' + 1) σ' (i + 1) (by rw [List.length_set, hlen1]; omega) (by rw [List.length_set, hlen1]; omega) (by omega) (fun s hs => ?_) (fun p' hp' => ?_) (by rw [List.length_set, hlen1, List.length_cons]; omega) ⟨E16.tr (q'.mo (by unfold tyF; simp)), r', f', fun i hi => ?_⟩ hS
                · rw [List.length_cons] at this
                  exact this
                · rcases List.mem_or_eq_of_mem_set hs with w | w
                  · exact hg2 s w
                  · rw [w]
                    unfold thg
                    omega
                · obtain ⟨o1, o2, o3, o4⟩ := hst2 p' (l4 p' hp')
                  refine ⟨by rw [List.length_set]; exact o1, ?_⟩
                  by_cases qo : p = p'
                  · subst qo
                    rw [List.getD_eq_getElem?_getD, List.getElem?_set_self o1]
                    show 0 ≤ (row ++ [t]).getD p 0 + 1 ∧ ¬ ((row ++ [t]).getD p 0 + 1) % 4 = 0
                    omega
                  · rw [List.getD_eq_getElem?_getD, List.getElem?_set_ne qo, ← List.getD_eq_getElem?_getD, o2]
                    exact ⟨o3, o4⟩
                · rw [List.length_cons] at hi ⊢
                  rw [q'.nra 8003 0 _ (by simp)]
                  exact st16 i hi
        -- the thing
        have thing : ∀ (v : Int) (s4 : jS), v = cc t → s4 = σ1 → ∀ (K : jS → Prop), (∀ s10, sq (tyF o) σ s10 → rs s10 8001 0 = ((a1 : Nat) : Int) → fT s10 o (row ++ [t]) → (∀ i : Nat, i < st.length → ra s10 8003 0 (((st.length : Nat) : Int) - 1 - ((i : Nat) : Int)) = ((st.getD i 0 : Nat) : Int)) → K s10) → TrV (n - 1) i_Flat_add [jo 0 o, ji v] s4 K := by
          intro v s4 hv e4 K hK
          subst e4
          refine c_add o0 (by omega) (by rw [i3.2.1]; omega) (by rw [i3.2.1]; omega) (fun s10 e10 e1 e2 => hK s10 (e.tr (e10.mo (by unfold tyF; simp))) ?_ (fT_add i3 hv (by omega) hl1 e10 e1 e2) (fun i hi => ?_))
          · rw [e10.nrs 8001 0 (by simp)]; exact i2
          · rw [e10.nra 8003 0 _ (by simp)]; exact i5 i hi
        have g30 : J n c_Tape_readOne (some .boolean) 30 [some (jo 8 0), some (jo 0 o), some (ji ((st.length : Nat) : Int)), some (ji i), none] [] σ1 (qI Q) := by
          refine wp_Tape_readOne_30 ⟨o0, by omega, by omega, c_isCon (D := D) (a := a1) (by omega) hm1 hD1 i2 ?_⟩
          by_cases q90 : tpN D a1 ≤ 90
          · have hc1 : (if 65 ≤ tpN D a1 ∧ tpN D a1 ≤ 90 then (1 : Int) else 0) = 1 := if_pos (by omega)
            rw [hc1, if_neg (by decide)]
            rw [if_pos q90] at ht0
            refine c_next hm1 hD1 i2 ⟨⟨by omega, by omega⟩, ⟨by omega, by omega⟩, thing _ σ1 (by unfold cc; rw [if_neg (by omega), ← ht0]; omega) rfl _ (fun s10 e10 r10 f10 st10 => ?_)⟩
            have hm10 := hm.sq e10
            have hD10 := hD.ty e10
            refine c_isCon (D := D) (a := a1) (by omega) hm10 hD10 r10 ?_
            rw [hc1, r10]
            refine ⟨⟨by omega, by omega⟩, fun s15 e15 => ?_⟩
            have q15 : sq [(8001, 0)] s10 s15 := by rw [e15]; exact (sq.rf _ s10).pws 8001 0 _ (by decide)
            have r15 : rs s15 8001 0 = ((a1 + 1 : Nat) : Int) := by rw [e15, rs_ws, if_pos ⟨rfl, rfl⟩]; omega
            clear e15
            have E15 : sq (tyF o) σ s15 := e10.tr (q15.mo (by unfold tyF; simp))
            have f15 : fT s15 o (row ++ [t]) := f10.sq q15 (by decide)
            have st15 : ∀ i : Nat, i < st.length → ra s15 8003 0 (((st.length : Nat) : Int) - 1 - ((i : Nat) : Int)) = ((st.getD i 0 : Nat) : Int) := fun i hi => by rw [q15.nra 8003 0 _ (by decide)]; exact st10 i hi
            rw [if_neg (by decide)]
            refine c_isNext (D := D) (a := a1 + 1) (by omega) (hm.sq E15) (hD.ty E15) r15 ?_
            by_cases q40 : tpN D (a1 + 1) = 40
            · rw [if_pos ⟨q90, q40⟩] at hS
              rw [if_pos q40, if_neg (by decide), if_neg (by omega)]
              have ha4 := tpN_lt (D := D) (a := a1 + 1) (by rw [q40]; decide)
              have l3 := cln_at (hm.sq E15) 8003 0 12 (by decide)
              rw [l3, f15.2.1, hlen1]
              refine ⟨by omega, ⟨by omega, by omega⟩, by omega, by omega, fun s26 e26 => ⟨⟨by omega, by omega⟩, ?_⟩⟩
              have q26 : sq [(8003, 0)] s15 s26 := by rw [e26]; exact (sq.rf _ s15).pwa 8003 0 _ _ (by decide)
              have r26 : ∀ i : Int, ra s26 8003 0 i = if i = ((st.length : Nat) : Int) then ((row.length + 1 : Nat) : Int) - 1 else ra s15 8003 0 i := fun i => by
                rw [e26]
                unfold wa
                rw [raf_wA, if_pos ⟨rfl, rfl⟩]
                rfl
              clear e26
              have E26 : sq (tyF o) σ s26 := E15.tr (q26.mo (by unfold tyF; simp))
              have f26 : fT s26 o (row ++ [t]) := f15.sq q26 (by decide)
              have eg : (row ++ [t]).getD row.length 0 = t := by
                rw [List.getD_eq_getElem?_getD, List.getElem?_append_right (Nat.le_refl _), Nat.sub_self]
                rfl
              have etop : ra s26 8003 0 (((st.length : Nat) : Int) + 1 - 1) = ((row.length : Nat) : Int) := by
                rw [r26, if_pos (by omega)]; omega
              have l4 := cln_at (hm.sq E26) 8003 0 12 (by decide)
              refine wp_Tape_readOne_123 ?_
              rw [if_pos (by omega), etop]
              refine ⟨by omega, o0, by omega, ⟨by omega, by omega⟩, by omega, by omega, by omega, c_nextPart (D := D) (a := a1 + 1) (row := row ++ [t]) (by omega) (hm.sq E26) (hD.ty E26) (by rw [q26.nrs 8001 0 (by decide)]; exact r15) f26 (by rw [E26.nrl]; exact hl12) (by omega) (by omega) (by rw [eg]; omega) (by rw [eg]; omega) (fun w => ?_) (fun w1 w2 σ' q' r' f' => ?_)⟩
              · rw [eg] at w
                rcases w with w | w
                · omega
                · rw [if_pos (by omega)] at w
                  exact absurd q40 w
              · rw [eg] at f'
                have hset : (row ++ [t]).set row.length (t + 1) = row ++ [t + 1] := by
                  rw [List.set_append_right _ _ (Nat.le_refl _), Nat.sub_self]
                  rfl
                rw [hset] at f'
                rw [if_pos (by decide)]
                refine ⟨⟨by omega, by omega⟩, ?_⟩
                rw [show 4 * (tpN D a1 - 65) + 1 = t + 1 by omega] at hS
                have := ih (row ++ [t + 1]) (row.length :: st) (a1 + 2) σ' (i + 1) (by rw [List.length_append]; show row.length + 1 + k = 12; omega) (by rw [List.length_append]; show i + 1 = ((row.length + 1 : Nat) : Int); omega) (by omega) (fun s hs => ?_) (fun p hp => ?_) (by rw [List.length_cons, List.length_append]; show st.length + 1 ≤ row.length + 1; omega) ⟨E26.tr (q'.mo (by unfold tyF; simp)), r', f', fun i hi => ?_⟩ hS
                · rw [List.length_cons] at this
                  rw [show ((st.length : Nat) : Int) + 1 = ((st.length + 1 : Nat) : Int) by omega]
                  exact this
                · rcases List.mem_append.mp hs with w | w
                  · exact hg s w
                  · rw [List.mem_singleton] at w
                    rw [w]
                    unfold thg
                    omega
                · rcases List.mem_cons.mp hp with w | w
                  · subst w
                    refine ⟨by rw [List.length_append]; show row.length < row.length + 1; omega, ?_⟩
                    rw [List.getD_eq_getElem?_getD, List.getElem?_append_right (Nat.le_refl _), Nat.sub_self]
                    show 0 ≤ t + 1 ∧ ¬ (t + 1) % 4 = 0
                    omega
                  · obtain ⟨o1, o2, o3⟩ := hst p w
                    refine ⟨by rw [List.length_append]; omega, ?_⟩
                    rw [List.getD_eq_getElem?_getD, List.getElem?_append_left o1, ← List.getD_eq_getElem?_getD]
                    exact ⟨o2, o3⟩
                · rw [List.length_cons] at hi ⊢
                  rw [q'.nra 8003 0 _ (by simp), r26]
                  cases i with
                  | zero =>
                    rw [if_pos (by omega)]
                    show ((row.length + 1 : Nat) : Int) - 1 = ((row.length : Nat) : Int)
                    omega
                  | succ i =>
                    rw [if_neg (by omega)]
                    have := st15 i (by omega)
                    rw [show ((st.length + 1 : Nat) : Int) - 1 - ((i + 1 : Nat) : Int) = ((st.length : Nat) : Int) - 1 - ((i : Nat) : Int) by omega, this]
                    rfl
            · rw [if_neg q40, if_pos rfl]
              exact shut s15 E15 r15 f15 st15 (fun w => q40 w.2)
          · have hc0 : (if 65 ≤ tpN D a1 ∧ tpN D a1 ≤ 90 then (1 : Int) else 0) = 0 := if_neg (by omega)
            rw [hc0, if_pos rfl]
            rw [if_neg q90] at ht0
            refine c_next hm1 hD1 i2 ⟨⟨by omega, by omega⟩, ⟨by omega, by omega⟩, thing _ σ1 (by unfold cc; rw [if_pos (by omega), ← ht0]; omega) rfl _ (fun s10 e10 r10 f10 st10 => ?_)⟩
            refine c_isCon (D := D) (a := a1) (by omega) (hm.sq e10) (hD.ty e10) r10 ?_
            rw [hc0, r10]
            refine ⟨⟨by omega, by omega⟩, fun s15 e15 => ?_⟩
            have q15 : sq [(8001, 0)] s10 s15 := by rw [e15]; exact (sq.rf _ s10).pws 8001 0 _ (by decide)
            have r15 : rs s15 8001 0 = ((a1 + 1 : Nat) : Int) := by rw [e15, rs_ws, if_pos ⟨rfl, rfl⟩]; omega
            clear e15
            rw [if_pos rfl]
            exact shut s15 (e10.tr (q15.mo (by unfold tyF; simp))) r15 (f10.sq q15 (by decide)) (fun i hi => by rw [q15.nra 8003 0 _ (by decide)]; exact st10 i hi) (fun w => q90 w.1)
        refine ⟨by omega, by omega, c_isCon (D := D) (a := a1) (by omega) hm1 hD1 i2 ?_⟩
        by_cases q90 : tpN D a1 ≤ 90
        · have hc1 : (if 65 ≤ tpN D a1 ∧ tpN D a1 ≤ 90 then (1 : Int) else 0) = 1 := if_pos (by omega)
          rw [hc1, if_pos (by decide)]
          exact g30
        · have hc0 : (if 65 ≤ tpN D a1 ∧ tpN D a1 ≤ 90 then (1 : Int) else 0) = 0 := if_neg (by omega)
          rw [hc0, if_neg (fun w => w rfl)]
          refine c_isVar (D := D) (a := a1) (by omega) hm1 hD1 i2 ?_
          have hv1 : (if 97 ≤ tpN D a1 ∧ tpN D a1 ≤ 122 then (1 : Int) else 0) = 1 := if_pos (by omega)
          rw [hv1, if_pos (by decide)]
          exact g30
      · rw [if_pos qq] at hS
        refine ⟨by omega, by omega, c_isCon (D := D) (a := a1) (by omega) hm1 hD1 i2 ?_⟩
        rw [if_neg (fun w => qq (Or.inl w)), if_neg (fun w => w rfl)]
        refine c_isVar (D := D) (a := a1) (by omega) hm1 hD1 i2 ?_
        rw [if_neg (fun w => qq (Or.inr w)), if_neg (fun w => w rfl)]
        exact hq0 (by rw [← hS]) σ1 e (by rw [← hS]; exact i2)
  refine wp_Tape_readOne ⟨o0, by omega, wp_Flat_clear ⟨o0, fun s2 e2 => ?_⟩⟩
  have f2 : sq [(1, o)] σ s2 := by rw [e2]; exact (sq.rf _ σ).pws 1 o _ (List.contains_iff_mem.mpr List.mem_cons_self)
  have r2 : rs s2 1 o = 0 := by rw [e2, rs_ws, if_pos ⟨rfl, rfl⟩]
  clear e2
  exact loop 12 [] [] a s2 0 rfl rfl ha (fun t ht => (by cases ht)) (fun p hp => (by cases hp)) (Nat.le_refl _) ⟨f2.mo (by unfold tyF; simp), by rw [f2.nrs 8001 0 (by simp)]; exact h1, ⟨o0, r2, by rw [f2.nrl, hl12]; show ((0 : Nat) : Int) ≤ 12; omega, fun i hi => absurd hi (by simp)⟩, fun i hi => absurd hi (by simp)⟩ rfl
theorem c_readWhole {Q : Int → jS → Prop} (hn : 7 ≤ n) (hm : cln σ) (hD : cTp σ D) (o0 : 0 ≤ o) (hl12 : rl σ 0 o = 12)
    (hq1 : rdW D = true → ∀ σ', sq (tyF o) σ σ' → fT σ' o (rdT D 0).2.2 → Q 1 σ')
    (hq0 : rdW D = false → ∀ σ', sq (tyF o) σ σ' → rs σ' 8001 0 = (((rdT D 0).2.1 : Nat) : Int) → Q 0 σ') : TrI n i_Tape_readWhole [jo 8 0, jo 0 o] σ Q := by
  refine wp_Tape_readWhole ⟨by omega, fun s2 e2 => ⟨o0, by omega, ?_⟩⟩
  have f2 : sq [(8001, 0)] σ s2 := by rw [e2]; exact (sq.rf _ σ).pws 8001 0 _ (by decide)
  have r2 : rs s2 8001 0 = 0 := by rw [e2, rs_ws, if_pos ⟨rfl, rfl⟩]
  clear e2
  have F2 : sq (tyF o) σ s2 := f2.mo (by unfold tyF; simp)
  refine c_readOne (a := 0) (D := D) (by omega) (hm.sq F2) (hD.ty F2) (Nat.zero_le _) r2 o0 (by rw [F2.nrl]; exact hl12) (fun w σ' q' v1 f' => ?_) (fun w σ' q' v1 => ?_)
  · have F : sq (tyF o) σ σ' := F2.tr q'
    have h00 : rs σ' 8000 0 = ((D.length : Nat) : Int) := by rw [F.nrs 8000 0 (tyF_no (by decide))]; exact hD.1
    rw [if_neg (by decide), v1, h00]
    by_cases q : (rdT D 0).2.1 = D.length
    · rw [if_neg (fun w => w (by omega))]
      exact hq1 (by unfold rdW; rw [w, q, decide_eq_true rfl]; rfl) σ' F f'
    · rw [if_pos (by omega)]
      exact hq0 (by unfold rdW; rw [w, decide_eq_false q]; rfl) σ' F v1
  · rw [if_pos rfl]
    exact hq0 (by unfold rdW; rw [w]; rfl) σ' (F2.tr q') v1
end ZRg
