/-! A type is read from a tape, as a whole: the reference. -/
section ZRe
variable {n : Nat} {σ0 σ σ1 : jS} {D row : List Int} {a : Nat} {st : List Nat}
set_option maxRecDepth 8000 in
theorem t_readType {Q : Int → jS → Prop} (hn : 4 ≤ n) (hm : mln σ) (hD : mTp σ D) (ha : a ≤ D.length) (h2 : rs σ 1002 0 = ((a : Nat) : Int)) (h3 : rs σ 1003 0 = -1)
    (hq1 : (rdT D a).1 = true → ∀ σ', sq rtF σ σ' → rs σ' 1002 0 = (((rdT D a).2.1 : Nat) : Int) → rs σ' 1003 0 = -1 → rs σ' 1006 0 = (((rdT D a).2.2.length : Nat) : Int) → (∀ i : Nat, i < (rdT D a).2.2.length → ra σ' 1004 0 ((i : Nat) : Int) = (rdT D a).2.2.getD i 0) → Q 1 σ')
    (hq0 : (rdT D a).1 = false → ∀ σ', sq rtF σ σ' → rs σ' 1002 0 = (((rdT D a).2.1 : Nat) : Int) → rs σ' 1003 0 = (((rdT D a).2.1 : Nat) : Int) → Q 0 σ') : TrI n i_Model_readType [jo 1 0] σ Q := by
  have hD800 := hD.2.1
  have loop : ∀ (k : Nat) (row : List Int) (st : List Nat) (a1 : Nat) (σ1 : jS), row.length + k = 12 → a1 ≤ D.length → (∀ t, t ∈ row → thg t) → (∀ o, o ∈ st → o < row.length ∧ 0 ≤ row.getD o 0) → st.length ≤ row.length → tyI σ σ1 a1 row st → rdS D k a1 row st = rdT D a → J n c_Model_readType (some .boolean) 12 [some (jo 1 0), some (ji 1), none] [] σ1 (qI Q) := by
    intro k
    induction k with
    | zero =>
      intro row st a1 σ1 hl ha1 hg hst hsl hI hS
      obtain ⟨e, i2, i3, i6, i4, i7, i5⟩ := hI
      have hm1 : mln σ1 := hm.sq e
      have hS2 : (false, a1, row) = rdT D a := hS
      have fail : TrI (n - 1) i_Model_fails [jo 1 0, ji ((a1 : Nat) : Int)] σ1 (fun zr10 zs9 => (zr10 = 0 ∨ zr10 = 1) ∧ Q zr10 zs9) := by
        refine wp_Model_fails ⟨by omega, fun s4 e5 => ⟨Or.inl rfl, ?_⟩⟩
        have f4 : sq [(1003, 0)] σ1 s4 := by rw [e5]; exact (sq.rf _ σ1).pws 1003 0 _ (by decide)
        refine hq0 (by rw [← hS2]) s4 (e.tr (f4.mo (by decide))) ?_ ?_
        · rw [← hS2, f4.nrs 1002 0 (by decide)]; exact i2
        · rw [← hS2, e5, rs_ws, if_pos ⟨rfl, rfl⟩]
      refine wp_Model_readType_12 ?_
      rw [if_neg (by decide)]
      refine ⟨by omega, by omega, t_here hm1 (hD.sq e (by decide)) i2 ?_⟩
      have g35 : J n c_Model_readType (some .boolean) 35 [some (jo 1 0), none, some (ji (tpN D a1))] [] σ1 (qI Q) := by
        refine wp_Model_readType_35 ⟨by omega, ?_⟩
        rw [i6, if_neg (fun w => w (by omega)), i2]
        exact ⟨by omega, fail⟩
      refine wp_Model_isVar ?_
      have nv : TrI (n - 1) i_Model_isCon [ji (tpN D a1)] σ1 (fun zr8 zs7 => (if zr8 = 0 then TrI (n - 1) i_Model_fails [jo 1 0, ji (rs zs7 1002 0)] zs7 (fun zr10 zs9 => (zr10 = 0 ∨ zr10 = 1) ∧ Q zr10 zs9) else J n c_Model_readType (some .boolean) 35 [some (jo 1 0), none, some (ji (tpN D a1))] [] zs7 (qI Q))) := by
        refine wp_Model_isCon ?_
        rw [i2]
        by_cases q1 : tpN D a1 < 65
        · rw [if_pos q1, if_pos rfl]; exact fail
        · rw [if_neg q1]
          by_cases q2 : 90 < tpN D a1
          · rw [if_pos q2, if_pos rfl]; exact fail
          · rw [if_neg q2, if_neg (by decide)]; exact g35
      by_cases q1 : tpN D a1 < 97
      · rw [if_pos q1, if_neg (fun w => w rfl)]; exact nv
      · rw [if_neg q1]
        by_cases q2 : 122 < tpN D a1
        · rw [if_pos q2, if_neg (fun w => w rfl)]; exact nv
        · rw [if_neg q2, if_pos (by decide)]; exact g35
    | succ k ih =>
      intro row st a1 σ1 hl ha1 hg hst hsl hI hS
      have hI0 := hI
      obtain ⟨e, i2, i3, i6, i4, i7, i5⟩ := hI
      have hm1 : mln σ1 := hm.sq e
      have hbr := tpN_rng (D := D) (a := a1) hD.2.2.2
      unfold rdS at hS
      refine wp_Model_readType_12 ?_
      rw [if_neg (by decide)]
      refine ⟨by omega, by omega, t_here hm1 (hD.sq e (by decide)) i2 ?_⟩
      by_cases qq : (65 ≤ tpN D a1 ∧ tpN D a1 ≤ 90) ∨ (97 ≤ tpN D a1 ∧ tpN D a1 ≤ 122)
      · rw [if_neg (fun w => w qq)] at hS
        have ha2 := tpN_lt (D := D) (a := a1) (by omega)
        have l04 := mln_at hm1 1004 12 (by decide)
        -- one more thing
        have more : ∀ (t con : Int) (s9 : jS), t = (if tpN D a1 ≤ 90 then 4 * (tpN D a1 - 65) else -1 - (tpN D a1 - 97)) → (con = if tpN D a1 ≤ 90 then 1 else 0) → s9 = wa σ1 1004 0 ((row.length : Nat) : Int) t → ∀ s13, s13 = ws s9 1006 0 (((row.length : Nat) : Int) + 1) → ∀ s15, s15 = ws s13 1002 0 (((a1 : Nat) : Int) + 1) → TrI (n - 1) i_Model_hasMore [jo 1 0, ji con] s15 (fun zr19 zs18 => (if rs zs18 1003 0 = (-1) then J n c_Model_readType (some .boolean) 12 [some (jo 1 0), some (ji zr19), none] [] zs18 (qI Q) else Q 0 zs18)) := by
          intro t con s9 ht hcon e9 s13 e13 s15 e15
          have f15 : sq [(1002, 0), (1004, 0), (1006, 0)] σ1 s15 := by rw [e15, e13, e9]; exact (((sq.rf _ σ1).pwa 1004 0 _ _ (by decide)).pws 1006 0 _ (by decide)).pws 1002 0 _ (by decide)
          have r2 : rs s15 1002 0 = ((a1 + 1 : Nat) : Int) := by rw [e15, rs_ws, if_pos ⟨rfl, rfl⟩]; omega
          have r6 : rs s15 1006 0 = ((row.length + 1 : Nat) : Int) := by rw [e15, e13, rs_ws, if_neg (by decide), rs_ws, if_pos ⟨rfl, rfl⟩]; omega
          have r4 : ∀ i : Int, ra s15 1004 0 i = if i = ((row.length : Nat) : Int) then t else ra σ1 1004 0 i := fun i => by
            rw [e15, e13, e9]
            show ra (wa σ1 1004 0 ((row.length : Nat) : Int) t) 1004 0 i = _
            unfold wa
            rw [raf_wA, if_pos ⟨rfl, rfl⟩]
            rfl
          clear e9 e13 e15
          have tg : thg t := by
            rw [ht]
            unfold thg
            split <;> omega
          have hg2 : ∀ s, s ∈ row ++ [t] → thg s := fun s hs => by
            rcases List.mem_append.mp hs with w | w
            · exact hg s w
            · rw [List.mem_singleton] at w
              rw [w]; exact tg
          have hI15 : tyI σ s15 (a1 + 1) (row ++ [t]) st := by
            refine ⟨e.tr (f15.mo (by decide)), r2, by rw [f15.nrs 1003 0 (by decide)]; exact i3, by rw [r6, List.length_append]; rfl, fun i hi => ?_, by rw [f15.nrs 1007 0 (by decide)]; exact i7, fun i hi => by rw [f15.nra 1005 0 _ (by decide)]; exact i5 i hi⟩
            rw [List.length_append] at hi
            have hi' : i < row.length + 1 := hi
            rw [r4]
            by_cases qi : i = row.length
            · subst qi
              rw [if_pos rfl, List.getD_eq_getElem?_getD, List.getElem?_append_right (Nat.le_refl _), Nat.sub_self]
              rfl
            · rw [if_neg (by omega), i4 i (by omega), List.getD_eq_getElem?_getD, List.getD_eq_getElem?_getD, List.getElem?_append_left (by omega)]
          have hcn : (con = 1 ∧ tpN D (a1 + 1) = 40) ↔ (tpN D a1 ≤ 90 ∧ tpN D (a1 + 1) = 40) := by
            rw [hcon]
            split <;> omega
          have hlen1 : (row ++ [t]).length = row.length + 1 := by rw [List.length_append]; rfl
          have hst2 : ∀ o, o ∈ st → o < (row ++ [t]).length ∧ (row ++ [t]).getD o 0 = row.getD o 0 ∧ 0 ≤ row.getD o 0 := fun o ho => by
            obtain ⟨o1, o2⟩ := hst o ho
            refine ⟨by omega, ?_, o2⟩
            rw [List.getD_eq_getElem?_getD, List.getElem?_append_left o1, ← List.getD_eq_getElem?_getD]
          refine t_hasMore (D := D) (by omega) hm hD (by omega) (by rw [hcon]; split <;> omega) hI15 (by omega) hsl hg2 hst (fun w1 w2 σ' hI' => ?_) (fun w1 a' hcl σ' hI' => ?_) (fun w1 a' o st' hcl hw σ' hs' h2' h3' => ?_) (fun w1 a' o st' hcl hw σ' hI' => ?_)
          · rw [if_pos (hcn.mp ⟨w1, w2⟩)] at hS
            have q90 := (hcn.mp ⟨w1, w2⟩).1
            rw [if_pos q90] at ht
            rw [← ht] at hS
            have ha4 := tpN_lt (D := D) (a := a1 + 1) (by rw [w2]; decide)
            rw [if_pos hI'.2.2.1]
            refine ih (row ++ [t + 1]) (row.length :: st) (a1 + 2) σ' (by rw [List.length_append]; show row.length + 1 + k = 12; omega) (by omega) (fun s hs => ?_) (fun o ho => ?_) (by rw [List.length_cons, List.length_append]; show st.length + 1 ≤ row.length + 1; omega) hI' hS
            · rcases List.mem_append.mp hs with w | w
              · exact hg s w
              · rw [List.mem_singleton] at w
                rw [w]
                unfold thg
                omega
            · rcases List.mem_cons.mp ho with w | w
              · subst w
                refine ⟨by rw [List.length_append]; show row.length < row.length + 1; omega, ?_⟩
                rw [List.getD_eq_getElem?_getD, List.getElem?_append_right (Nat.le_refl _), Nat.sub_self]
                show 0 ≤ t + 1
                omega
              · obtain ⟨o1, o2⟩ := hst o w
                refine ⟨by rw [List.length_append]; omega, ?_⟩
                rw [List.getD_eq_getElem?_getD, List.getElem?_append_left o1, ← List.getD_eq_getElem?_getD]
                exact o2
          · rw [if_neg (fun w => w1 (hcn.mpr w)), hcl, ← ht] at hS
            dsimp only at hS
            rw [if_pos hI'.2.2.1]
            refine wp_Model_readType_12 ?_
            rw [if_pos rfl]
            obtain ⟨x1, x2, x3, x4, x5, -⟩ := hI'
            rw [← hS] at hq1
            exact hq1 rfl σ' x1 x2 x3 x4 x5
          · rw [if_neg (fun w => w1 (hcn.mpr w)), hcl, ← ht] at hS
            dsimp only at hS
            rw [if_pos hw] at hS
            rw [h3', if_neg (by omega)]
            rw [← hS] at hq0
            exact hq0 rfl σ' hs' h2' h3'
          · rw [if_neg (fun w => w1 (hcn.mpr w)), hcl, ← ht] at hS
            dsimp only at hS
            rw [if_neg hw] at hS
            have hcl2 := clsS_le (D := D) (st := st) (a := a1 + 1) (by omega)
            rw [hcl] at hcl2
            obtain ⟨l1, l2, l3, l4⟩ := hcl2
            dsimp only at l1 l2 l3 l4
            have h44 : tpN D a' = 44 := Classical.byContradiction (fun w => hw (Or.inr w))
            have h3n : ¬ (row ++ [t]).getD o 0 % 4 = 3 := fun w => hw (Or.inl w)
            have ha4 := tpN_lt (D := D) (a := a') (by rw [h44]; decide)
            obtain ⟨o1, o2, o3⟩ := hst2 o (l4 o List.mem_cons_self)
            have og : thg ((row ++ [t]).getD o 0) := by
              rw [List.getD_eq_getElem?_getD, List.getElem?_eq_getElem o1]
              exact hg2 _ (List.getElem_mem _)
            rw [if_pos hI'.2.2.1]
            refine ih ((row ++ [t]).set o ((row ++ [t]).getD o 0 + 1)) (o :: st') (a' + 1) σ' (by rw [List.length_set, hlen1]; omega) (by omega) (fun s hs => ?_) (fun o' ho' => ?_) (by rw [List.length_set, hlen1]; omega) hI' hS
            · rcases List.mem_or_eq_of_mem_set hs with w | w
              · exact hg2 s w
              · rw [w]
                unfold thg at og ⊢
                omega
            · obtain ⟨p1, p2, p3⟩ := hst2 o' (l4 o' ho')
              refine ⟨by rw [List.length_set]; exact p1, ?_⟩
              by_cases qo : o = o'
              · subst qo
                rw [List.getD_eq_getElem?_getD, List.getElem?_set_self o1]
                show 0 ≤ (row ++ [t]).getD o 0 + 1
                omega
              · rw [List.getD_eq_getElem?_getD, List.getElem?_set_ne qo, ← List.getD_eq_getElem?_getD, p2]
                exact p3
        have g35 : J n c_Model_readType (some .boolean) 35 [some (jo 1 0), none, some (ji (tpN D a1))] [] σ1 (qI Q) := by
          refine wp_Model_readType_35 ⟨by omega, ?_⟩
          rw [i6, if_pos (by omega), l04]
          refine ⟨by omega, by omega, wp_Model_isVar ?_⟩
          by_cases q90 : tpN D a1 ≤ 90
          · rw [if_pos (by omega), if_pos rfl]
            refine ⟨⟨by omega, by omega⟩, wp_Model_con ⟨⟨by omega, by omega⟩, ⟨by omega, by omega⟩, ?_⟩⟩
            rw [l04]
            refine ⟨by omega, by omega, fun s9 e9 => ?_⟩
            have f9 : sq [(1004, 0)] σ1 s9 := by rw [e9]; exact (sq.rf _ σ1).pwa 1004 0 _ _ (by decide)
            rw [f9.nrs 1006 0 (by decide), i6]
            refine ⟨⟨by omega, by omega⟩, fun s13 e13 => ?_⟩
            have f13 : sq [(1006, 0)] s9 s13 := by rw [e13]; exact (sq.rf _ s9).pws 1006 0 _ (by decide)
            rw [f13.nrs 1002 0 (by decide), f9.nrs 1002 0 (by decide), i2]
            refine ⟨⟨by omega, by omega⟩, fun s15 e15 => wp_Model_isCon ?_⟩
            rw [if_neg (by omega), if_neg (by omega)]
            exact more _ 1 s9 (by rw [if_pos q90]; omega) (by rw [if_pos q90]) e9 s13 e13 s15 e15
          · rw [if_neg (by omega), if_neg (by omega), if_neg (by decide)]
            refine ⟨⟨by omega, by omega⟩, wp_Model_var ⟨⟨by omega, by omega⟩, ?_⟩⟩
            rw [l04]
            refine ⟨by omega, by omega, fun s9 e9 => ?_⟩
            have f9 : sq [(1004, 0)] σ1 s9 := by rw [e9]; exact (sq.rf _ σ1).pwa 1004 0 _ _ (by decide)
            rw [f9.nrs 1006 0 (by decide), i6]
            refine ⟨⟨by omega, by omega⟩, fun s13 e13 => ?_⟩
            have f13 : sq [(1006, 0)] s9 s13 := by rw [e13]; exact (sq.rf _ s9).pws 1006 0 _ (by decide)
            rw [f13.nrs 1002 0 (by decide), f9.nrs 1002 0 (by decide), i2]
            refine ⟨⟨by omega, by omega⟩, fun s15 e15 => wp_Model_isCon ?_⟩
            rw [if_neg (by omega), if_pos (by omega)]
            exact more _ 0 s9 (by rw [if_neg q90]) (by rw [if_neg q90]) e9 s13 e13 s15 e15
        refine wp_Model_isVar ?_
        by_cases q90 : tpN D a1 ≤ 90
        · rw [if_pos (by omega), if_neg (fun w => w rfl)]
          refine wp_Model_isCon ?_
          rw [if_neg (by omega), if_neg (by omega), if_neg (by decide)]
          exact g35
        · rw [if_neg (by omega), if_neg (by omega), if_pos (by decide)]
          exact g35
      · rw [if_pos qq] at hS
        have fail : TrI (n - 1) i_Model_fails [jo 1 0, ji ((a1 : Nat) : Int)] σ1 (fun zr10 zs9 => (zr10 = 0 ∨ zr10 = 1) ∧ Q zr10 zs9) := by
          refine wp_Model_fails ⟨by omega, fun s4 e5 => ⟨Or.inl rfl, ?_⟩⟩
          have f4 : sq [(1003, 0)] σ1 s4 := by rw [e5]; exact (sq.rf _ σ1).pws 1003 0 _ (by decide)
          refine hq0 (by rw [← hS]) s4 (e.tr (f4.mo (by decide))) ?_ ?_
          · rw [← hS, f4.nrs 1002 0 (by decide)]; exact i2
          · rw [← hS, e5, rs_ws, if_pos ⟨rfl, rfl⟩]
        have nv : TrI (n - 1) i_Model_isCon [ji (tpN D a1)] σ1 (fun zr8 zs7 => (if zr8 = 0 then TrI (n - 1) i_Model_fails [jo 1 0, ji (rs zs7 1002 0)] zs7 (fun zr10 zs9 => (zr10 = 0 ∨ zr10 = 1) ∧ Q zr10 zs9) else J n c_Model_readType (some .boolean) 35 [some (jo 1 0), none, some (ji (tpN D a1))] [] zs7 (qI Q))) := by
          refine wp_Model_isCon ?_
          rw [i2]
          by_cases q1 : tpN D a1 < 65
          · rw [if_pos q1, if_pos rfl]; exact fail
          · rw [if_neg q1, if_pos (by omega), if_pos rfl]; exact fail
        refine wp_Model_isVar ?_
        by_cases q1 : tpN D a1 < 97
        · rw [if_pos q1, if_neg (fun w => w rfl)]; exact nv
        · rw [if_neg q1, if_pos (by omega), if_neg (fun w => w rfl)]; exact nv
  refine wp_Model_readType ⟨by omega, fun s2 e2 s3 e3 => ?_⟩
  have f3 : sq [(1006, 0), (1007, 0)] σ s3 := by rw [e3, e2]; exact ((sq.rf _ σ).pws 1006 0 _ (by decide)).pws 1007 0 _ (by decide)
  have r6 : rs s3 1006 0 = 0 := by rw [e3, e2]; rfl
  have r7 : rs s3 1007 0 = 0 := by rw [e3]; rfl
  clear e2 e3
  refine loop 12 [] [] a s3 rfl ha (fun t ht => (by cases ht)) (fun o ho => (by cases ho)) (Nat.le_refl _) ⟨f3.mo (by decide), by rw [f3.nrs 1002 0 (by decide)]; exact h2, by rw [f3.nrs 1003 0 (by decide)]; exact h3, r6, fun i hi => absurd hi (by simp), r7, fun i hi => absurd hi (by simp)⟩ rfl
/-- a whole tape is one type -/
def rdW (D : List Int) : Bool := (rdT D 0).1 && decide ((rdT D 0).2.1 = D.length)
theorem t_readWhole {Q : Int → jS → Prop} (hn : 5 ≤ n) (hm : mln σ) (hD : mTp σ D)
    (hq1 : rdW D = true → ∀ σ', sq rtF σ σ' → rs σ' 1003 0 = -1 → rs σ' 1006 0 = (((rdT D 0).2.2.length : Nat) : Int) → (∀ i : Nat, i < (rdT D 0).2.2.length → ra σ' 1004 0 ((i : Nat) : Int) = (rdT D 0).2.2.getD i 0) → Q 1 σ')
    (hq0 : rdW D = false → ∀ σ', sq rtF σ σ' → rs σ' 1003 0 = (((rdT D 0).2.1 : Nat) : Int) → Q 0 σ') : TrI n i_Model_readWhole [jo 1 0] σ Q := by
  refine wp_Model_readWhole ⟨by omega, by omega, wp_Model_beginText ⟨by omega, fun s2 e2 s3 e3 => ?_⟩⟩
  have f3 : sq [(1002, 0), (1003, 0)] σ s3 := by rw [e3, e2]; exact ((sq.rf _ σ).pws 1002 0 _ (by decide)).pws 1003 0 _ (by decide)
  have r2 : rs s3 1002 0 = 0 := by rw [e3, e2]; rfl
  have r3 : rs s3 1003 0 = -1 := by rw [e3]; rfl
  clear e2 e3
  refine t_readType (a := 0) (D := D) (by omega) (hm.sq f3) (hD.sq f3 (by decide)) (Nat.zero_le _) r2 r3 (fun w σ' q' v2 v3 v6 v4 => ?_) (fun w σ' q' v2 v3 => ?_)
  · have F : sq rtF σ σ' := (f3.mo (by decide)).tr q'
    have h01 : rs σ' 1001 0 = ((D.length : Nat) : Int) := by rw [F.nrs 1001 0 (by decide)]; exact hD.1
    rw [if_neg (by decide), v2, h01]
    by_cases q : (rdT D 0).2.1 = D.length
    · rw [if_pos (by omega)]
      exact hq1 (by unfold rdW; rw [w, q, decide_eq_true rfl]; rfl) σ' F v3 v6 v4
    · rw [if_neg (by omega)]
      refine wp_Model_fails ⟨by omega, fun s4 e4 => ?_⟩
      have f4 : sq [(1003, 0)] σ' s4 := by rw [e4]; exact (sq.rf _ σ').pws 1003 0 _ (by decide)
      rw [if_pos rfl]
      refine hq0 (by unfold rdW; rw [w, decide_eq_false q]; rfl) s4 (F.tr (f4.mo (by decide))) ?_
      rw [e4, rs_ws, if_pos ⟨rfl, rfl⟩]
  · rw [if_pos rfl]
    exact hq0 (by unfold rdW; rw [w]; rfl) σ' ((f3.mo (by decide)).tr q') v3
end ZRe
