/-! What two types have to do with each other: the reference; what both become, written. -/
def oF9 : List (Nat × Int) := [(1039, 0), (1041, 0), (1042, 0), (1043, 0), (1044, 0), (1045, 0)]
section ZUn
variable {n : Nat} {σ0 σ σ1 : jS} {T : zT} {M : zM} {r r1 r2 : List Int} {i j : Nat} {Y : Nat → List Int} {x y : Int}
theorem t_isTold {Q : Int → jS → Prop} (hn : 1 ≤ n) (h0 : ¬ (0 ≤ x ∧ x < 4) → Q 0 σ) (h1 : 0 ≤ x ∧ x < 4 → Q 1 σ) : TrI n i_Model_isTold [ji x] σ Q := by
  refine wp_Model_isTold ⟨hn, wp_Model_isIn ?_⟩
  by_cases q : x < 0
  · rw [if_pos q]; exact ⟨Or.inl rfl, h0 (by omega)⟩
  · rw [if_neg q]
    by_cases q2 : 3 < x
    · rw [if_pos q2]; exact ⟨Or.inl rfl, h0 (by omega)⟩
    · rw [if_neg q2]; exact ⟨Or.inr rfl, h1 (by omega)⟩
theorem t_coverOf {Q : Int → jS → Prop} (hm : mln σ) (hY : pYm σ Y) (hi : i < 4) (hq : ∀ b, ltr b (Y i) → Q b σ) : TrI n i_Model_coverOf [jo 1 0, ji ((i : Nat) : Int)] σ Q := by
  have l46 := mln_at hm 1046 48 (by decide)
  have l47 := mln_at hm 1047 4 (by decide)
  obtain ⟨a1, a2, a3, a4, a5⟩ := hY i hi
  have hi12 := a1.2.2
  have loop : ∀ (d k : Nat) (b : Int), k + d = (Y i).length → ltr b ((Y i).take k) → J n c_Model_coverOf (some .int) 7 [some (jo 1 0), some (ji ((i : Nat) : Int)), some (ji b), some (ji (12 * ((i : Nat) : Int) + ((k : Nat) : Int)))] [] σ (qI Q) := by
    intro d
    induction d with
    | zero =>
      intro k b hk hb
      refine wp_Model_coverOf_7 ⟨⟨by omega, by omega⟩, by omega, by omega, by omega, by omega, ?_⟩
      rw [a2]
      refine ⟨⟨by omega, by omega⟩, ?_⟩
      rw [if_pos (by omega)]
      rw [List.take_of_length_le (by omega)] at hb
      exact hq b hb
    | succ d ih =>
      intro k b hk hb
      have hkr : k < (Y i).length := by omega
      have tg := a1.2.1 _ (getD_mem hkr)
      unfold thg at tg
      refine wp_Model_coverOf_7 ⟨⟨by omega, by omega⟩, by omega, by omega, by omega, by omega, ?_⟩
      rw [a2]
      refine ⟨⟨by omega, by omega⟩, ?_⟩
      rw [if_neg (by omega), a5 k hkr]
      refine ⟨by omega, by omega, by omega, ?_⟩
      rw [show 12 * ((i : Nat) : Int) + ((k : Nat) : Int) + 1 = 12 * ((i : Nat) : Int) + ((k + 1 : Nat) : Int) by omega]
      by_cases q : (Y i).getD k 0 < 0
      · rw [if_pos q]
        refine ⟨⟨by omega, by omega⟩, ih (k + 1) b (by omega) ?_⟩
        rw [take_s hkr]
        exact ltr_neg hb q
      · rw [if_neg q]
        refine ⟨by omega, ⟨by omega, by omega⟩, ih (k + 1) _ (by omega) ?_⟩
        rw [take_s hkr]
        exact ltr_up hb (by omega) (by omega)
  have := loop (Y i).length 0 0 (by omega) ltr_nil
  rw [show 12 * ((i : Nat) : Int) + ((0 : Nat) : Int) = 12 * ((i : Nat) : Int) by omega] at this
  exact wp_Model_coverOf ⟨⟨by omega, by omega⟩, this⟩
set_option maxRecDepth 8000 in
theorem t_relation {Q : Int → jS → Prop} {w : Int} (hn : 5 ≤ n) (hm : mln σ) (hY : pYm σ Y) (hi : i < 4) (hj : j < 4) (hq : ∀ σ', sq (oF9 ++ h1F) σ σ' → Q (reV (Y i) (Y j) w) σ') : TrI n i_Model_relation [jo 1 0, ji ((i : Nat) : Int), ji ((j : Nat) : Int), ji w] σ Q := by
  have l46 := mln_at hm 1046 48 (by decide)
  have l47 := mln_at hm 1047 4 (by decide)
  obtain ⟨a1, a2, a3⟩ := hY i hi
  obtain ⟨b1, b2, b3⟩ := hY j hj
  have hq0 := hq σ (sq.rf _ σ)
  obtain ⟨k1, k2, k3, k4, k5, k6, k7⟩ := twB_ok a1 b1
  refine wp_Model_relation ⟨by omega, t_isTold (by omega) (fun w => absurd (show 0 ≤ ((i : Nat) : Int) ∧ ((i : Nat) : Int) < 4 by omega) w) (fun _ => ?_)⟩
  rw [if_neg (by decide)]
  refine t_isTold (by omega) (fun w => absurd (show 0 ≤ ((j : Nat) : Int) ∧ ((j : Nat) : Int) < 4 by omega) w) (fun _ => ?_)
  rw [if_pos (by decide)]
  by_cases q0 : w = 0
  · rw [if_pos q0]
    refine ⟨by omega, t_areUnified (by omega) hm hY hi hj (fun b new σ' e1 e2 e3 hb => ?_)⟩
    have hq1 := hq σ' (e1.mo (by decide))
    unfold reV at hq1
    rw [if_pos q0] at hq1
    rcases hb with ⟨c1, c2, -⟩ | ⟨c1, c2⟩
    · rw [if_neg (by omega)]
      rw [if_pos (dcd_iff.mpr c2)] at hq1
      exact hq1
    · rw [if_pos c1]
      rw [if_neg (fun w => c2 (dcd_iff.mp w))] at hq1
      exact hq1
  rw [if_neg q0]
  by_cases q1 : w = 1
  · rw [if_pos q1, l46, l47, b2]
    refine ⟨by omega, by omega, ⟨by omega, by omega⟩, ⟨by omega, by omega⟩, by omega, by omega, by omega, t_isPutIn (by omega) hm rfl rfl (by decide) rfl rfl (by decide) (by omega) (by omega) a3 b3 a1 b1 (fun v σ' e1 hv hvi => ?_)⟩
    have hq1 := hq σ' (e1.mo (by decide))
    unfold reV at hq1
    rw [if_neg q0, if_pos q1] at hq1
    by_cases qv : v = 0
    · rw [if_pos qv]
      rw [if_neg (fun w => by have := hvi.mpr (dcd_iff.mp w); omega)] at hq1
      exact hq1
    · rw [if_neg qv]
      rw [if_pos (dcd_iff.mpr (hvi.mp (by omega)))] at hq1
      exact hq1
  rw [if_neg q1]
  by_cases q2 : w = 2
  · rw [if_pos q2, l47, a2, b2]
    unfold reV at hq0
    rw [if_neg q0, if_neg q1, if_pos q2] at hq0
    refine ⟨by omega, by omega, by omega, by omega, by omega, by omega, ?_⟩
    by_cases ql : (((Y i).length : Nat) : Int) < (((Y j).length : Nat) : Int)
    · rw [if_pos ql]
      rw [if_neg (fun w => by have := (dcd_iff.mp w).1; omega)] at hq0
      exact hq0
    · rw [if_neg ql]
      refine t_coverOf hm hY hi (fun x hx => t_coverOf hm hY hj (fun y hy => ?_))
      have he := ltr_eq hx hy
      by_cases qe : x = y
      · rw [if_neg (fun h => h qe)]
        rw [if_pos (dcd_iff.mpr ⟨by omega, he.mp qe⟩)] at hq0
        exact hq0
      · rw [if_pos qe]
        rw [if_neg (fun w => qe (he.mpr (dcd_iff.mp w).2))] at hq0
        exact hq0
  rw [if_neg q2]
  by_cases q3 : w = 3
  · rw [if_pos q3]
    refine ⟨by omega, t_areUnified (by omega) hm hY hi hj (fun b new σ' e1 e2 e3 hb => ?_)⟩
    rcases hb with ⟨c1, c2, c3⟩ | ⟨c1, c2⟩
    · rw [if_neg (by omega), e3]
      refine t_layOut (by omega) e2 c3.2.1 k3.1 k3.2 (fun s31 f31 h31 => ?_)
      have hq1 := hq s31 ((e1.mo (by decide)).tr (f31.mo (by decide)))
      have er : twR true (Y i) (Y j) = cno [] (ex (lB true (Y i) (Y j)).1 (lB true (Y i) (Y j)).2.1 new (xA (Y i))) := rowE_eq k2 c3 k3.1 k3.2
      have el : (twR true (Y i) (Y j)).length = (ex (lB true (Y i) (Y j)).1 (lB true (Y i) (Y j)).2.1 new (xA (Y i))).length := by rw [er, cno_len]
      unfold reV at hq1
      rw [if_neg q0, if_neg q1, if_neg q2, if_pos q3] at hq1
      rw [← el]
      by_cases qb : (twR true (Y i) (Y j)).length ≤ 100
      · rw [if_pos qb, if_pos (by omega)]
        rw [if_pos (dcd_iff.mpr ⟨c2, qb⟩)] at hq1
        exact hq1
      · rw [if_neg qb, if_neg (by omega)]
        rw [if_neg (fun w => qb (dcd_iff.mp w).2)] at hq1
        exact hq1
    · have hq1 := hq σ' (e1.mo (by decide))
      unfold reV at hq1
      rw [if_neg q0, if_neg q1, if_neg q2, if_pos q3] at hq1
      rw [if_pos c1]
      rw [if_neg (fun w => c2 (dcd_iff.mp w).1)] at hq1
      exact hq1
  rw [if_neg q3]
  unfold reV at hq0
  rw [if_neg q0, if_neg q1, if_neg q2, if_neg q3] at hq0
  exact hq0
theorem c_unified {Q : Int → jS → Prop} (hn : 8 ≤ n) (hZ : cZ σ T M) (hY : pYc σ Y) (hi : i < 4) (hj : j < 4)
    (hq0 : ¬ (twP true (Y i) (Y j) ∧ (twR true (Y i) (Y j)).length ≤ 100) → ∀ σ', cq (twF ++ fF 1) σ σ' → cZ σ' T M → Q (-1) σ')
    (hq1 : twP true (Y i) (Y j) ∧ (twR true (Y i) (Y j)).length ≤ 100 → ∀ σ', cq ((11000, 0) :: (11001, 0) :: (11002, 0) :: (twF ++ fF 1)) σ σ' → cZ σ' T M → cW σ' (wrW (twR true (Y i) (Y j)) []) → Q (((wrW (twR true (Y i) (Y j)) []).length : Nat) : Int) σ') : TrI n i_Top_unified [jo 12 0, ji ((i : Nat) : Int), ji ((j : Nat) : Int)] σ Q := by
  have hZ0 := hZ
  obtain ⟨z1, z2, z3, z4, z5, z6, z7⟩ := hZ
  have l01 := cln_at z1 12001 0 4 (by decide)
  obtain ⟨a1, a2, a3⟩ := hY i hi
  obtain ⟨b1, b2, b3⟩ := hY j hj
  have t127 := cC_at z2 12007 0 0 (by decide)
  have t123 := cC_at z2 12003 0 1 (by decide)
  obtain ⟨k1, k2, k3, k4, k5, k6, k7⟩ := twB_ok a1 b1
  refine wp_Top_unified ⟨by omega, by omega, c_hasType z1 (fun w => absurd (show 0 ≤ ((i : Nat) : Int) ∧ ((i : Nat) : Int) < 4 by omega) w) (fun _ => ?_)⟩
  rw [if_neg (by decide)]
  refine c_hasType z1 (fun w => absurd (show 0 ≤ ((j : Nat) : Int) ∧ ((j : Nat) : Int) < 4 by omega) w) (fun _ => ?_)
  rw [if_neg (by decide), l01, t127, t123, a2, b2]
  refine ⟨by omega, by omega, by omega, by omega, by omega, by omega, c_join (by omega) hZ0 a3 b3 a1 b1 (fun b σ' e1 e2 hb => ?_)⟩
  rcases hb with ⟨c1, c2, c3, c4, c5⟩ | ⟨c1, c2⟩
  · rw [if_pos (by omega)]
    by_cases qb : (twR true (Y i) (Y j)).length ≤ 100
    · rw [if_pos qb] at c3
      have lf := e2.2.1.2.1 (1, 100) (by decide)
      have hrng : ∀ t, t ∈ twR true (Y i) (Y j) → -2600 ≤ t ∧ t < 104 := by
        obtain ⟨new, hr⟩ := c5
        exact twR_rng a1 b1 c2 k2 hr k3.1 k3.2 qb
      refine c_writeFlat (r := twR true (Y i) (Y j)) (by omega) e2.1 e2.2.1 ⟨by omega, c3, by rw [lf]; omega, fun k hk => c4 k hk (by omega)⟩ qb hrng (fun s15 f15 h15 => ?_)
      have q15 : cq ((11002, 0) :: wcF) σ' s15 := f15.cq (by decide)
      exact hq1 ⟨c2, qb⟩ s15 ((e1.mo (by decide)).tr (q15.mo (by decide))) (e2.fq (sq_r1 f15) (by decide) (fun o _ => ⟨by simp [wcF], by simp [wcF]⟩)) h15
    · rw [if_neg qb] at c3
      refine wp_Top_writeFlat ⟨by omega, ?_⟩
      rw [cC_at e2.2.1 12003 0 1 (by decide), c3]
      refine ⟨by omega, ?_⟩
      rw [if_neg (by omega)]
      exact hq0 (fun w => qb w.2) σ' e1 e2
  · rw [if_neg (by omega)]
    exact hq0 (fun w => c2 w.1) σ' e1 e2
theorem t_unified {Q : Int → jS → Prop} (hn : 5 ≤ n) (hm : mln σ) (hY : pYm σ Y) (hi : i < 4) (hj : j < 4)
    (hq0 : ¬ (twP true (Y i) (Y j) ∧ (twR true (Y i) (Y j)).length ≤ 100) → ∀ σ', sq (oF9 ++ h1F) σ σ' → Q (-1) σ')
    (hq1 : twP true (Y i) (Y j) ∧ (twR true (Y i) (Y j)).length ≤ 100 → ∀ σ', sq ((1132, 0) :: (1133, 0) :: (1134, 0) :: (oF9 ++ h1F)) σ σ' → mW σ' (wrW (twR true (Y i) (Y j)) []) → Q (((wrW (twR true (Y i) (Y j)) []).length : Nat) : Int) σ') : TrI n i_Model_unified [jo 1 0, ji ((i : Nat) : Int), ji ((j : Nat) : Int)] σ Q := by
  have l41 := mln_at hm 1041 101 (by decide)
  obtain ⟨a1, a2, a3⟩ := hY i hi
  obtain ⟨b1, b2, b3⟩ := hY j hj
  obtain ⟨k1, k2, k3, k4, k5, k6, k7⟩ := twB_ok a1 b1
  refine wp_Model_unified ⟨by omega, t_isTold (by omega) (fun w => absurd (show 0 ≤ ((i : Nat) : Int) ∧ ((i : Nat) : Int) < 4 by omega) w) (fun _ => ?_)⟩
  rw [if_neg (by decide)]
  refine t_isTold (by omega) (fun w => absurd (show 0 ≤ ((j : Nat) : Int) ∧ ((j : Nat) : Int) < 4 by omega) w) (fun _ => ?_)
  rw [if_neg (by decide)]
  refine ⟨by omega, t_areUnified (by omega) hm hY hi hj (fun b new σ' e1 e2 e3 hb => ?_)⟩
  rcases hb with ⟨c1, c2, c3⟩ | ⟨c1, c2⟩
  · rw [if_neg (by omega), e3]
    have er : twR true (Y i) (Y j) = cno [] (ex (lB true (Y i) (Y j)).1 (lB true (Y i) (Y j)).2.1 new (xA (Y i))) := rowE_eq k2 c3 k3.1 k3.2
    have el : (twR true (Y i) (Y j)).length = (ex (lB true (Y i) (Y j)).1 (lB true (Y i) (Y j)).2.1 new (xA (Y i))).length := by rw [er, cno_len]
    refine t_layOut (by omega) e2 c3.2.1 k3.1 k3.2 (fun s9 f9 h9 => ?_)
    have e9 : sq (oF9 ++ h1F) σ s9 := (e1.mo (by decide)).tr (f9.mo (by decide))
    rw [← el]
    by_cases qb : (twR true (Y i) (Y j)).length ≤ 100
    · rw [if_pos qb, if_pos (by omega)]
      obtain ⟨g1, g2, -⟩ := h9
      rw [List.take_of_length_le (by omega), ← el] at g1
      rw [List.take_of_length_le (by omega)] at g2
      rw [e9.nrl 1041 0, l41, g1]
      refine ⟨by omega, t_writeRow (by omega) (hm.sq e9) rfl rfl (by decide) ⟨by omega, by rw [e9.nrl 1041 0, l41]; omega, fun k hk => ?_⟩ (by rw [e9.nrl 1041 0, l41]; omega) qb (twR_rng a1 b1 c2 k2 c3 k3.1 k3.2 qb) (fun s12 f12 h12 => ?_)⟩
      · rw [show (0 : Int) + ((k : Nat) : Int) = ((k : Nat) : Int) by omega, g2 k (by omega), er]
      · exact hq1 ⟨c2, qb⟩ s12 ((e9.mo (by decide)).tr (f12.mo (by decide))) h12
    · rw [if_neg qb, if_neg (by omega)]
      exact hq0 (fun w => qb w.2) s9 e9
  · rw [if_pos c1]
    exact hq0 (fun w => c2 w.1) σ' (e1.mo (by decide))
end ZUn
