/-! No more steps than the class allows. -/
theorem sm_ones {α : Type} : ∀ {l : List α}, (l.map (fun _ => 1)).sum = l.length := by
  intro l
  induction l with
  | nil => rfl
  | cons a l ih => rw [List.map_cons, List.sum_cons, List.length_cons, ih, Nat.add_comm]
theorem srt_app {v : List Int} {R : List (List Int)} : ∀ {pre : List (List Int)}, srt (pre ++ v :: R) → (∀ a, a ∈ pre → a.length ≤ v.length) ∧ ∀ a, a ∈ R → v.length ≤ a.length ∧ ¬ a = v := by
  intro pre
  induction pre with
  | nil => intro h; exact ⟨fun a ha => (by cases ha), h.1⟩
  | cons b pre ih =>
    intro h
    obtain ⟨h1, h2⟩ := h
    obtain ⟨i1, i2⟩ := ih h2
    refine ⟨fun a ha => ?_, i2⟩
    rcases List.mem_cons.mp ha with w | w
    · rw [w]
      exact (h1 v (List.mem_append_right _ List.mem_cons_self)).1
    · exact i1 a w
section ZMt
variable {g : zH} {N : Int} {β βe : List (Int × Int)} {PL : List Int} {L : List (Int × Int)} {p v : List Int} {n m x y : Int} {i : Nat} {V : List (List Int)}
theorem ch_len (hz : zok g N) (hb : bok g N βe) (ha : acy g N βe) (n0 : 0 ≤ n) (n1 : n < N) (gn : ¬ gh g n = -1) (hi : i < pN (gh g n)) : (ex g N βe (gp g n i)).length < (ex g N βe n).length := by
  rw [ex_clen hz hb ha n0 n1 gn]
  have := sm_pos (f := fun k => (ex g N βe (gp g n k)).length) (a := i) (z := (ex g N βe (gp g n i)).length) (l := List.range' 0 (pN (gh g n))) (List.mem_range'_1.mpr ⟨Nat.zero_le _, by omega⟩) (Nat.le_refl _)
  omega
theorem e_len (h : pOK g N β βe PL) (he : ¬ eCt g N βe PL p v = 0) : v.length < p.length := by
  refine Classical.byContradiction (fun w => he (sm_0 (fun i _ => if_neg (fun q => w ?_))))
  obtain ⟨n, hn, w2⟩ := List.any_eq_true.mp q
  rw [Bool.and_eq_true] at w2
  obtain ⟨c1, c2⟩ := cnV_iff.mp w2.1
  obtain ⟨d1, d2⟩ := of_decide_eq_true w2.2
  obtain ⟨hz, hb, ha, hs, -⟩ := h
  obtain ⟨n0, n1, -⟩ := hs n hn
  rw [← c2, ← d2]
  exact ch_len hz hb ha n0 n1 c1 d1
theorem cn_two {A B : Int} (hA : A ∈ PL) (hB : B ∈ PL) (cA : cnV g N βe v A = true) (cB : cnV g N βe v B = true) (hAB : ¬ A = B) : 2 ≤ cCt g N βe PL v := by
  have one : ∀ z, z ∈ PL → 1 ≤ (PL.map (fun n => if n = z then 1 else 0)).sum := fun z hz => sm_pos hz (by rw [if_pos rfl]; exact Nat.le_refl _)
  have c2 : (PL.map (fun n => if n = A then 1 else 0)).sum + (PL.map (fun n => if n = B then 1 else 0)).sum ≤ cCt g N βe PL v := by
    rw [← sm_add]
    refine sm_le (fun n _ => ?_)
    by_cases qa : n = A
    · rw [if_pos qa, if_neg (fun w => hAB (by rw [← qa, w])), qa, if_pos cA]
      exact Nat.le_refl _
    · rw [if_neg qa]
      by_cases qb : n = B
      · rw [if_pos qb, qb, if_pos cB]; exact Nat.le_refl _
      · rw [if_neg qb]; exact Nat.zero_le _
  have oA := one A hA
  have oB := one B hB
  omega
theorem m_has (hm : ¬ mCt g N βe L v = 0) : ∃ q, q ∈ L ∧ badP g N βe q = true ∧ ex g N βe q.1 = v := by
  refine Classical.byContradiction (fun w => hm (sm_0 (fun q hq => if_neg (fun w2 => w ?_))))
  rw [Bool.and_eq_true] at w2
  exact ⟨q, hq, w2.1, of_decide_eq_true w2.2⟩
theorem crun_most2 {k : Nat} (hz : zok g N) (hb : bok g N β) (ha : acy g N β) (x0 : 0 ≤ x) (x1 : x < N) (y0 : 0 ≤ y) (y1 : y < N) (hl : (ex g N β x).length + (ex g N β y).length ≤ 112) (h : crun g N k β [(x, y)]) : k ≤ 16777216 := by
  obtain ⟨βe, hE⟩ := crE_of _ _ _ h
  have hw : inN N [(x, y)] := fun p hp => by
    have e := List.mem_singleton.mp hp
    rw [e]
    exact ⟨x0, x1, y0, y1⟩
  obtain ⟨hbe, hae, f3, f4⟩ := crE_fin hz k β _ hE hb ha hw
  obtain ⟨new, hnew⟩ := crE_new k β _ hE
  have f5 := f3 _ (ex_sol hz hbe hae)
  have exy : ex g N βe x = ex g N βe y := f5.2 (x, y) List.mem_cons_self
  have hsv : ∀ n, 0 ≤ n → n < N → sv g N βe (sv g N β n) = sv g N βe n ∧ ex g N βe (sv g N β n) = ex g N βe n := fun n n0 n1 => by
    obtain ⟨-, -, -, -, i5, -⟩ := sv_all hz hb ha n n0 n1
    exact ⟨f4 n n0 n1, i5 _ f5.1⟩
  obtain ⟨Rx, rx1, rx2, rx3, rx4, rx5⟩ := pos_ex hz hb ha x x0 x1
  obtain ⟨Ry, ry1, ry2, ry3, ry4, ry5⟩ := pos_ex hz hb ha y y0 y1
  have hs : sml g N β (Rx ++ Ry) := sml_app rx2 ry2
  have hsd : ∀ n, n ∈ Rx ++ Ry → svd g β n := fun n hn => (List.mem_append.mp hn).elim (rx4 n) (ry4 n)
  have hf : ∀ f : Int → Nat, ((Rx ++ Ry).map f).sum = f (sv g N β x) + f (sv g N β y) + ((Rx ++ Ry).map (chP g N β f)).sum := fun f => by
    rw [List.map_append, List.map_append, List.sum_append, List.sum_append, rx5 f, ry5 f]
    omega
  have hlen : (Rx ++ Ry).length ≤ 112 := by rw [List.length_append, rx3, ry3]; exact hl
  have hxP : sv g N β x ∈ Rx ++ Ry := List.mem_append_left _ rx1
  have hyP : sv g N β y ∈ Rx ++ Ry := List.mem_append_right _ ry1
  generalize Rx ++ Ry = PL at hs hsd hf hlen hxP hyP
  obtain ⟨⟨L, L1, L2, L3, L4⟩, hps, hin⟩ := run_all (Or' := orP g N βe PL x y) (PL := PL) hz hbe hae (fun A B i hA hB gA gB he hex hi => Or.inr ⟨A, B, i, hA, hB, gA, gB, he, hex, hi, rfl⟩) k β [(x, y)] hE hb ha hs hw (fun p hp => by
    have e := List.mem_singleton.mp hp
    rw [e]
    exact ⟨hxP, hyP, Or.inl rfl⟩)
  have pok : pOK g N β βe PL := ⟨hz, hbe, hae, hs, hsv, hsd, hin (fun n hn => by
    obtain ⟨n0, n1, -⟩ := hs n hn
    rw [sv_id hz hb ha n0 n1 (hsd n hn)]
    exact hn)⟩
  have lok' : lOK g N βe PL L x y := ⟨fun f => by
    rw [L2 f]
    rfl, fun q hq => ⟨(L3 q hq).1, (L3 q hq).2.2⟩⟩
  have hZ := L4 (fun v => v = ex g N βe x ∨ v.length < (ex g N βe x).length) (fun n i n0 n1 gn hi hv => by
    have := ch_len hz hbe hae n0 n1 gn hi
    refine Or.inr ?_
    rcases hv with w | w
    · rw [← w]; exact this
    · omega) (fun p hp => by
      have e := List.mem_singleton.mp hp
      rw [e]
      exact Or.inl rfl)
  obtain ⟨v1, v2⟩ := mkV_ok (l := PL.map (ex g N βe))
  have hV : ∀ n, n ∈ PL → ex g N βe n ∈ mkV (PL.map (ex g N βe)) := fun n hn => (v2 _).mpr (List.mem_map_of_mem hn)
  generalize mkV (PL.map (ex g N βe)) = V at v1 hV
  have hVn := srt_nd v1
  have hLV : ∀ q, q ∈ L → ex g N βe q.1 ∈ V := fun q hq => by
    rcases (L3 q hq).2.1 with w | ⟨A, B, i, hA, hB, gA, gB, he, hex, hi, e⟩
    · rw [w]
      show ex g N βe x ∈ V
      rw [← (hsv x x0 x1).2]
      exact hV _ hxP
    · rw [e]
      obtain ⟨a0, a1, a2⟩ := hs A hA
      have c := (hz A a0 a1).2 i hi
      show ex g N βe (gp g A i) ∈ V
      rw [← (hsv _ c.1 (by omega)).2]
      exact hV _ (a2 i hi)
  have hk : k ≤ (V.map (nCt g N βe L)).sum := by
    rw [← L1, ← sm_ones]
    exact grp_ge (κ := fun q : Int × Int => ex g N βe q.1) (G := fun _ => 1) (fun q hq _ => hLV q hq)
  have ht : (V.map (tCt g N βe PL)).sum ≤ 112 := by
    refine Nat.le_trans (grp_le (κ := fun n => ex g N βe n) (G := fun _ => 1) hVn (l := PL)) ?_
    rw [sm_ones]
    exact hlen
  refine Nat.le_trans hk (w_most (c := cCt g N βe PL) (M := mCt g N βe L) (e := eCt g N βe PL) (h := hCt g N βe PL) (fun p v => eCt_3 p v) (fun p v => hCt_3 p v) ?_ ht)
  have all : ∀ (R pre : List (List Int)), V = pre ++ R → wC (tCt g N βe PL) (cCt g N βe PL) (mCt g N βe L) (nCt g N βe L) (eCt g N βe PL) (hCt g N βe PL) R := by
    intro R
    induction R with
    | nil => intro pre _; trivial
    | cons v R ih =>
      intro pre hpre
      rw [hpre] at v1
      obtain ⟨o1, o2⟩ := srt_app v1
      rw [← hpre] at v1
      have two : ¬ mCt g N βe L v = 0 → 2 ≤ cCt g N βe PL v := fun hm => by
        obtain ⟨q, hq, hqb, hqv⟩ := m_has hm
        obtain ⟨d1, d2, d3, d4, d5⟩ := bad_cn pok lok' hq hqb
        rw [hqv] at d3 d4
        exact cn_two d1 d2 d3 d4 d5
      refine ⟨ih (pre ++ [v]) (by rw [hpre, List.append_assoc]; rfl), c_t, two, ?_⟩
      by_cases hx : ex g N βe x = v
      · have n1 : nCt g N βe L v ≤ 1 := by
          have := n_le (v := v) (R := []) pok lok' (fun q hq hqb hne => by
            exfalso
            have h1 := e_len pok hne
            rw [← hx] at h1
            rcases hZ q hq with w | w
            · rw [w] at h1; omega
            · omega)
          rw [if_pos hx] at this
          exact this
        refine Or.inl ⟨fun p hp => sm_0 (fun q hq => if_neg (fun e => ?_)), n1, Nat.le_trans m_n n1, ?_⟩
        · obtain ⟨p1, p2⟩ := o2 p hp
          rcases hZ q hq with w | w
          · exact p2 (by rw [← e, w, hx])
          · rw [e, hx] at w
            omega
        · have := t_ge (v := v) (R := []) pok x0 x1 y0 y1 hf exy List.nodup_nil
          rw [if_pos hx] at this
          exact this
      · have inR : ∀ q, q ∈ L → badP g N βe q = true → ¬ eCt g N βe PL (ex g N βe q.1) v = 0 → ex g N βe q.1 ∈ R := fun q hq hqb hne => by
          have h1 := e_len pok hne
          have h2 := hLV q hq
          rw [hpre] at h2
          rcases List.mem_append.mp h2 with w | w
          · have := o1 _ w
            omega
          · rcases List.mem_cons.mp w with w | w
            · rw [w] at h1; omega
            · exact w
        have hRn : R.Nodup := by
          rw [hpre] at hVn
          exact (List.nodup_cons.mp (List.nodup_append.mp hVn).2.1).2
        have te := t_ge (v := v) pok x0 x1 y0 y1 hf exy hRn
        have ne := n_le (v := v) pok lok' inR
        have me := m_le (v := v) pok lok' hx inR
        rw [if_neg hx, Nat.zero_add] at te ne
        refine Or.inr ⟨?_, Nat.le_trans w_Sm te, ?_, Nat.le_trans w_Sm (Nat.le_trans (sm_le (fun p _ => Nat.mul_le_mul_right _ hCt_e)) te), fun hm h2 => ?_⟩
        · rw [w_Am]; exact ne
        · rw [w_Am]; exact me
        · obtain ⟨q, hq, hqb, hqv⟩ := m_has hm
          refine v_cost (V := V) pok hnew lok' x0 x1 y0 y1 hf exy hVn hV hx hps (Nat.le_trans w_Gm ?_) h2 hq hqb hqv
          rw [hpre, List.map_append, List.sum_append, List.map_cons, List.sum_cons]
          omega
  exact all V [] rfl
end ZMt
