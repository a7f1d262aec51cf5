/-! A goal out of a forest: the class. -/
section ZFr
variable {n : Nat} {σ : jS}
theorem c_goalInto {Q : jS → Prop} {fb nb k : Int} {z : zN} {u : Int × Int} {r : List Int} (hn : 2 ≤ n) (hf : (fb = 0 ∧ nb = 0) ∨ (fb = 1 ∧ nb = 2)) (hfb : rs σ 3000 fb = nb) (k0 : 0 ≤ k) (k1 : k < rs σ 6000 nb) (hl : rs σ 6000 nb * 8 ≤ rl σ 6001 nb) (hg : gr3 (rl σ 6001 nb)) (s1 : rs σ 3002 fb ≤ 900000) (sl : rs σ 3002 fb ≤ rl σ 3001 fb) (l0 : rl σ 0 243 = 100) (hzr : (z.2.2.2.2.2.2.2).getD [] = r) (hN : forN σ nb fb k z u)
    (hq : ∀ σ', sq [(0, 243), (1, 243)] σ σ' → (rs σ' 1 243 = if r.length ≤ 100 then ((r.length : Nat) : Int) else 101) → (r.length ≤ 100 → fT σ' 243 r) → Q σ') : TrV n i_Forest_goalInto [jo 3 fb, ji k, jo 0 243] σ Q := by
  have hgl : rl σ 6001 nb ≤ 200000 := by unfold gr3 at hg; omega
  obtain ⟨⟨y8, y9⟩, z0, z1, z2, z3, z4, z5, z7, z6⟩ := hN
  rw [hzr] at z7 z6
  refine wp_Forest_goalInto ⟨by omega, by omega, wp_Flat_clear ⟨by omega, fun s2 e2 => ?_⟩⟩
  have f2 : sq [(0, 243), (1, 243)] σ s2 := by rw [e2]; exact (sq.rf _ σ).pws 1 243 _ (by decide)
  have c2 : rs s2 1 243 = 0 := by rw [e2, rs_ws, if_pos ⟨rfl, rfl⟩]
  have a1 : rs s2 3000 fb = nb := by rw [f2.nrs 3000 fb (by simp)]; exact hfb
  have a2 : rs s2 6000 nb = rs σ 6000 nb := f2.nrs 6000 nb (by simp)
  have a3 : ra s2 6001 nb = ra σ 6001 nb := f2.nraf 6001 nb (by simp)
  have a4 : rl s2 6001 nb = rl σ 6001 nb := f2.nrl 6001 nb
  rw [a1]
  refine ⟨by omega, by omega, c_nget (c := 6) (by omega) k0 (by omega) (by decide) (by omega) (by omega) ?_⟩
  rw [a1]
  refine ⟨by omega, c_nget (c := 7) (by omega) k0 (by omega) (by decide) (by omega) (by omega) ?_⟩
  rw [a3, show k * 8 + ((6 : Nat) : Int) = k * 8 + 6 by omega, show k * 8 + ((7 : Nat) : Int) = k * 8 + 7 by omega, z7]
  by_cases q : r.length ≤ 100
  · obtain ⟨y1, y2, y3⟩ := z6 q
    rw [if_pos q]
    generalize hF : ra σ 6001 nb (k * 8 + 6) = F at y1 y2 y3
    have loop : ∀ (m i : Nat) (σ1 : jS), i + m = r.length → sq [(0, 243), (1, 243)] σ σ1 → rs σ1 1 243 = (i : Nat) → (∀ j : Nat, j < i → ra σ1 0 243 j = cc (r.getD j 0)) → J n c_Forest_goalInto none 30 [some (jo 3 fb), none, some (jo 0 243), some (ji F), some (ji (r.length : Nat)), some (ji (i : Nat)), none] [] σ1 (qV Q) := by
      intro m
      induction m with
      | zero =>
        intro i σ1 hi f1 c1 c3
        have ei : i = r.length := by omega
        refine wp_Forest_goalInto_30 ?_
        rw [if_pos (by omega)]
        refine hq σ1 f1 (by rw [if_pos q, c1, ei]) (fun _ => ⟨by omega, by rw [c1, ei], by rw [f1.nrl 0 243, l0]; omega, fun j hj => c3 j (by omega)⟩)
      | succ m ih =>
        intro i σ1 hi f1 c1 c3
        have b1 : rs σ1 3002 fb = rs σ 3002 fb := f1.nrs 3002 fb (by simp)
        have b2 : rl σ1 3001 fb = rl σ 3001 fb := f1.nrl 3001 fb
        have b3 : ra σ1 3001 fb = ra σ 3001 fb := f1.nraf 3001 fb (by simp)
        have b4 : rl σ1 0 243 = 100 := by rw [f1.nrl 0 243]; exact l0
        refine wp_Forest_goalInto_30 ?_
        rw [if_neg (by omega)]
        refine ⟨⟨by omega, by omega⟩, by omega, ?_⟩
        rw [if_neg (by omega), if_neg (by omega)]
        refine ⟨by omega, ?_⟩
        rw [b1, if_neg (by omega), b2, b3, y3 i (by omega)]
        refine ⟨by omega, by omega, by omega, by omega, c_add (by omega) (by omega) (by omega) (by omega) (fun σ2 g1 g2 g3 => ⟨⟨by omega, by omega⟩, ?_⟩)⟩
        rw [show ((i : Nat) : Int) + 1 = ((i + 1 : Nat) : Int) by omega]
        refine ih (i + 1) σ2 (by omega) (f1.tr g1) (by rw [g2, c1]; omega) (fun j hj => ?_)
        rw [g3, if_pos (by omega), c1]
        unfold upI
        by_cases w : j = i
        · rw [if_pos (by omega), w]
        · rw [if_neg (by omega)]; exact c3 j (by omega)
    exact loop r.length 0 s2 (by omega) f2 c2 (fun j hj => absurd hj (Nat.not_lt_zero j))
  · rw [if_neg q]
    have loop : ∀ (m i : Nat) (σ1 : jS), i + m = 101 → sq [(0, 243), (1, 243)] σ σ1 → rs σ1 1 243 = (i : Nat) → J n c_Forest_goalInto none 30 [some (jo 3 fb), none, some (jo 0 243), some (ji (ra σ 6001 nb (k * 8 + 6))), some (ji 101), some (ji (i : Nat)), none] [] σ1 (qV Q) := by
      intro m
      induction m with
      | zero =>
        intro i σ1 hi f1 c1
        refine wp_Forest_goalInto_30 ?_
        rw [if_pos (by omega)]
        exact hq σ1 f1 (by rw [if_neg q, c1]; omega) (fun w => absurd w q)
      | succ m ih =>
        intro i σ1 hi f1 c1
        have b4 : rl σ1 0 243 = 100 := by rw [f1.nrl 0 243]; exact l0
        refine wp_Forest_goalInto_30 ?_
        rw [if_neg (by omega)]
        refine ⟨⟨by omega, by omega⟩, by omega, ?_⟩
        · rw [if_pos (by omega)]
          refine ⟨by omega, c_add (by omega) (by omega) (by omega) (by omega) (fun σ2 g1 g2 g3 => ⟨⟨by omega, by omega⟩, ?_⟩)⟩
          rw [show ((i : Nat) : Int) + 1 = ((i + 1 : Nat) : Int) by omega]
          exact ih (i + 1) σ2 (by omega) (f1.tr g1) (by rw [g2, c1]; omega)
    exact loop 101 0 s2 (by omega) f2 c2
end ZFr
