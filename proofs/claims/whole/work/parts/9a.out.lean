/-! Given ones are left out, scopes are shut. -/
/-- whether a call of out or shut changes something -/
def inS (S k : Int) : Prop := 0 ≤ k ∧ k < S
/-- what out(k, w) answers, given the bits so far; and the bits behind it -/
def outB (S O k w : Int) : Int := if ¬ (0 ≤ k ∧ k < S) then 0 else if (if ¬ bAnd (bShr O k) 1 = 1 then (0 : Int) else 1) = w then 0 else 1
def outN (S O k w : Int) : Int := if outB S O k w = 1 then bXor O (bShl 1 k) else O
section ZOu
variable {n : Nat} {σ0 σ σ1 : jS} {D : List Int} {T : zT} {M : zM} {O U : Int} {r : List Int}
theorem c_out {Q : Int → jS → Prop} {k w : Int} (hn : 3 ≤ n) (hZ : cZ σ T M) (hO : rs σ 12009 0 = O)
    (hq0 : outB (tG T) O k w = 0 → Q 0 σ)
    (hq1 : outB (tG T) O k w = 1 → ∀ σ', sq [(12009, 0), (5000, 0), (6000, 0), (3002, 0)] σ σ' → rs σ' 12009 0 = bXor O (bShl 1 k) → cZ σ' T [] → Q 1 σ') : TrI n i_Top_out [jo 12 0, ji k, ji w] σ Q := by
  have hZ0 := hZ
  obtain ⟨z1, z2, z3, z4, z5, z6, z7⟩ := hZ
  have z3c := z3
  obtain ⟨p1, tx, p2, p3, p4, p5, p6, p7, p8, p9⟩ := z3
  have hG := p1.2.2.2.1
  unfold outB at hq0 hq1
  refine wp_Top_out ⟨by omega, by omega, by omega, wp_Text_hasGiven ?_⟩
  rw [p4, p6]
  by_cases q : k < 0
  · rw [if_pos q, if_pos rfl]
    exact hq0 (by rw [if_pos (by omega)])
  rw [if_neg q]
  refine ⟨by omega, ?_⟩
  by_cases q2 : tG T ≤ k
  · rw [if_pos q2, if_pos rfl]
    exact hq0 (by rw [if_pos (by omega)])
  rw [if_neg q2, if_neg (by omega), if_neg (by decide)]
  have nin : ¬ ¬ (0 ≤ k ∧ k < tG T) := fun h => h ⟨by omega, by omega⟩
  rw [if_neg nin] at hq0 hq1
  refine wp_Top_isIn ?_
  rw [hO]
  have fin : (if (if ¬ bAnd (bShr O k) 1 = 1 then (0 : Int) else 1) = w then (0 : Int) else 1) = 1 → (∀ (zs8 : jS), zs8 = ws σ 12009 0 (bXor O (bShl 1 k)) → 0 ≤ rs zs8 12007 0 ∧ 0 ≤ rs zs8 7001 (rs zs8 12007 0) ∧ TrV (n - 1) i_Memory_forget [jo 5 (rs zs8 7001 (rs zs8 12007 0))] zs8 (fun zs11 => Q 1 zs11)) := by
    intro h1 s8 e8
    have f8 : sq [(12009, 0)] σ s8 := by rw [e8]; exact (sq.rf _ σ).pws 12009 0 _ (by decide)
    have r8 : rs s8 12009 0 = bXor O (bShl 1 k) := by rw [e8, rs_ws, if_pos ⟨rfl, rfl⟩]
    clear e8
    have c8 : cC s8 := z2.fq (W := fun F o => ([(12009, 0)] : List (Nat × Int)).contains (F, o)) (sq_r1 f8) (by decide)
    rw [cC_at c8 12007 0 0 (by decide), cC_at c8 7001 0 0 (by decide)]
    refine ⟨by omega, by omega, c_forget (by omega) c8 (fun s9 e9 y1 y2 y3 => ?_)⟩
    have f9 : sq [(12009, 0), (5000, 0), (6000, 0), (3002, 0)] σ s9 := (f8.mo (by decide)).tr (e9.mo (by decide))
    have g9 := sq_r1 f9
    refine hq1 h1 s9 f9 (by rw [e9.nrs 12009 0 (by decide)]; exact r8) ⟨z1.sq f9, z2.fq g9 (by decide), z3c.fq g9 (by decide) (fun o _ _ => ⟨by simp, by simp⟩), memR_nil z4 g9 (by decide) y1 y2 y3, by rw [g9.l 9003 0, g9.l 9004 0, g9.l 9005 0, g9.l 9006 0, g9.l 9007 0, g9.l 6001 1]; exact z5, z6.fq g9 (by decide), z7.fq g9⟩
  by_cases qb : bAnd (bShr O k) 1 = 1
  · have e1 : (if ¬ bAnd (bShr O k) 1 = 1 then (0 : Int) else 1) = 1 := if_neg (fun h => h qb)
    rw [e1] at hq0 fin
    rw [if_neg (fun h => h qb)]
    by_cases qw : (1 : Int) = w
    · rw [if_neg (fun h => h qw)]
      exact hq0 (if_pos qw)
    · rw [if_pos qw]
      exact fin (if_neg qw)
  · have e1 : (if ¬ bAnd (bShr O k) 1 = 1 then (0 : Int) else 1) = 0 := if_pos qb
    rw [e1] at hq0 fin
    rw [if_pos qb]
    by_cases qw : (0 : Int) = w
    · rw [if_neg (fun h => h qw)]
      exact hq0 (if_pos qw)
    · rw [if_pos qw]
      exact fin (if_neg qw)
theorem c_shut {Q : Int → jS → Prop} {k w : Int} (hn : 3 ≤ n) (hZ : cZ σ T M) (hU : rs σ 12010 0 = U)
    (hq0 : outB (tS T) U k w = 0 → Q 0 σ)
    (hq1 : outB (tS T) U k w = 1 → ∀ σ', sq [(12010, 0), (5000, 0), (6000, 0), (3002, 0)] σ σ' → rs σ' 12010 0 = bXor U (bShl 1 k) → cZ σ' T [] → Q 1 σ') : TrI n i_Top_shut [jo 12 0, ji k, ji w] σ Q := by
  have hZ0 := hZ
  obtain ⟨z1, z2, z3, z4, z5, z6, z7⟩ := hZ
  have z3c := z3
  obtain ⟨p1, tx, p2, p3, p4, p5, p6, p7, p8, p9⟩ := z3
  have hS := p1.2.1
  unfold outB at hq0 hq1
  refine wp_Top_shut ⟨by omega, by omega, by omega, wp_Text_hasScope ?_⟩
  rw [p4, p5]
  by_cases q : k < 0
  · rw [if_pos q, if_pos rfl]
    exact hq0 (by rw [if_pos (by omega)])
  rw [if_neg q]
  refine ⟨by omega, ?_⟩
  by_cases q2 : tS T ≤ k
  · rw [if_pos q2, if_pos rfl]
    exact hq0 (by rw [if_pos (by omega)])
  rw [if_neg q2, if_neg (by omega), if_neg (by decide)]
  have nin : ¬ ¬ (0 ≤ k ∧ k < tS T) := fun h => h ⟨by omega, by omega⟩
  rw [if_neg nin] at hq0 hq1
  refine wp_Top_isIn ?_
  rw [hU]
  have fin : (if (if ¬ bAnd (bShr U k) 1 = 1 then (0 : Int) else 1) = w then (0 : Int) else 1) = 1 → (∀ (zs8 : jS), zs8 = ws σ 12010 0 (bXor U (bShl 1 k)) → 0 ≤ rs zs8 12007 0 ∧ 0 ≤ rs zs8 7001 (rs zs8 12007 0) ∧ TrV (n - 1) i_Memory_forget [jo 5 (rs zs8 7001 (rs zs8 12007 0))] zs8 (fun zs11 => Q 1 zs11)) := by
    intro h1 s8 e8
    have f8 : sq [(12010, 0)] σ s8 := by rw [e8]; exact (sq.rf _ σ).pws 12010 0 _ (by decide)
    have r8 : rs s8 12010 0 = bXor U (bShl 1 k) := by rw [e8, rs_ws, if_pos ⟨rfl, rfl⟩]
    clear e8
    have c8 : cC s8 := z2.fq (W := fun F o => ([(12010, 0)] : List (Nat × Int)).contains (F, o)) (sq_r1 f8) (by decide)
    rw [cC_at c8 12007 0 0 (by decide), cC_at c8 7001 0 0 (by decide)]
    refine ⟨by omega, by omega, c_forget (by omega) c8 (fun s9 e9 y1 y2 y3 => ?_)⟩
    have f9 : sq [(12010, 0), (5000, 0), (6000, 0), (3002, 0)] σ s9 := (f8.mo (by decide)).tr (e9.mo (by decide))
    have g9 := sq_r1 f9
    refine hq1 h1 s9 f9 (by rw [e9.nrs 12010 0 (by decide)]; exact r8) ⟨z1.sq f9, z2.fq g9 (by decide), z3c.fq g9 (by decide) (fun o _ _ => ⟨by simp, by simp⟩), memR_nil z4 g9 (by decide) y1 y2 y3, by rw [g9.l 9003 0, g9.l 9004 0, g9.l 9005 0, g9.l 9006 0, g9.l 9007 0, g9.l 6001 1]; exact z5, z6.fq g9 (by decide), z7.fq g9⟩
  by_cases qb : bAnd (bShr U k) 1 = 1
  · have e1 : (if ¬ bAnd (bShr U k) 1 = 1 then (0 : Int) else 1) = 1 := if_neg (fun h => h qb)
    rw [e1] at hq0 fin
    rw [if_neg (fun h => h qb)]
    by_cases qw : (1 : Int) = w
    · rw [if_neg (fun h => h qw)]
      exact hq0 (if_pos qw)
    · rw [if_pos qw]
      exact fin (if_neg qw)
  · have e1 : (if ¬ bAnd (bShr U k) 1 = 1 then (0 : Int) else 1) = 0 := if_pos qb
    rw [e1] at hq0 fin
    rw [if_pos qb]
    by_cases qw : (0 : Int) = w
    · rw [if_neg (fun h => h qw)]
      exact hq0 (if_pos qw)
    · rw [if_pos qw]
      exact fin (if_neg qw)
theorem t_forget {Q : jS → Prop} (hq : ∀ σ', sq [(1063, 0), (1065, 0), (1070, 0)] σ σ' → mMem σ' [] → Q σ') : TrV n i_Model_forget [jo 1 0] σ Q := by
  refine wp_Model_forget ⟨by omega, fun s3 e3 s4 e4 s5 e5 => ?_⟩
  have f3 : sq [(1070, 0)] σ s3 := by rw [e3]; exact (sq.rf _ σ).pws 1070 0 _ (by decide)
  have f4 : sq [(1063, 0)] s3 s4 := by rw [e4]; exact (sq.rf _ s3).pws 1063 0 _ (by decide)
  have f5 : sq [(1065, 0)] s4 s5 := by rw [e5]; exact (sq.rf _ s4).pws 1065 0 _ (by decide)
  have k65 : rs s5 1065 0 = 0 := by rw [e5, rs_ws, if_pos ⟨rfl, rfl⟩]
  have k63 : rs s5 1063 0 = 0 := by rw [f5.nrs 1063 0 (by decide), e4, rs_ws, if_pos ⟨rfl, rfl⟩]
  have k70 : rs s5 1070 0 = 0 := by rw [f5.nrs 1070 0 (by decide), f4.nrs 1070 0 (by decide), e3, rs_ws, if_pos ⟨rfl, rfl⟩]
  clear e3 e4 e5
  exact hq s5 (((f3.mo (by decide)).tr (f4.mo (by decide))).tr (f5.mo (by decide))) ⟨by rw [k70]; rfl, by show 0 ≤ 40; omega, fun j h => absurd h (by simp), by rw [k63]; exact ⟨by omega, by show (0:Int) ≤ 200 * ((0 : Nat) : Int); omega⟩, by rw [k65]; omega, by rw [k63, k65]; omega, fun m m0 m1 => absurd m1 (by rw [k63]; omega)⟩
theorem t_out {Q : Int → jS → Prop} {k w : Int} (hn : 2 ≤ n) (hT : mTx σ T) (hO : rs σ 1015 0 = O)
    (hq0 : outB (tG T) O k w = 0 → Q 0 σ)
    (hq1 : outB (tG T) O k w = 1 → ∀ σ', sq [(1015, 0), (1063, 0), (1065, 0), (1070, 0)] σ σ' → rs σ' 1015 0 = bXor O (bShl 1 k) → mMem σ' [] → Q 1 σ') : TrI n i_Model_out [jo 1 0, ji k, ji w] σ Q := by
  obtain ⟨p1, p2, p3, p4, p5, p6⟩ := hT
  have hG := p1.2.2.2.1
  have hG0 := p1.2.2.1
  unfold outB at hq0 hq1
  refine wp_Model_out ⟨by omega, by omega, wp_Model_isGiven ⟨by omega, ?_⟩⟩
  rw [p3]
  refine ⟨⟨by omega, by omega⟩, by omega, wp_Model_isIn ?_⟩
  by_cases q : k < 0
  · rw [if_pos q]
    refine ⟨Or.inl rfl, ?_⟩
    rw [if_pos rfl]
    exact hq0 (by rw [if_pos (by omega)])
  rw [if_neg q]
  by_cases q2 : tG T ≤ k
  · rw [if_pos (by omega)]
    refine ⟨Or.inl rfl, ?_⟩
    rw [if_pos rfl]
    exact hq0 (by rw [if_pos (by omega)])
  rw [if_neg (by omega)]
  refine ⟨Or.inr rfl, ?_⟩
  have nin : ¬ ¬ (0 ≤ k ∧ k < tG T) := fun h => h ⟨by omega, by omega⟩
  rw [if_neg nin] at hq0 hq1
  rw [if_neg (by decide)]
  refine wp_Model_has ?_
  rw [hO]
  have fin : (if (if ¬ bAnd (bShr O k) 1 = 1 then (0 : Int) else 1) = w then (0 : Int) else 1) = 1 → (∀ (zs8 : jS), zs8 = ws σ 1015 0 (bXor O (bShl 1 k)) → TrV (n - 1) i_Model_forget [jo 1 0] zs8 (fun zs11 => Q 1 zs11)) := by
    intro h1 s8 e8
    have f8 : sq [(1015, 0)] σ s8 := by rw [e8]; exact (sq.rf _ σ).pws 1015 0 _ (by decide)
    have r8 : rs s8 1015 0 = bXor O (bShl 1 k) := by rw [e8, rs_ws, if_pos ⟨rfl, rfl⟩]
    clear e8
    exact t_forget (fun s9 e9 hM => hq1 h1 s9 ((f8.mo (by decide)).tr (e9.mo (by decide))) (by rw [e9.nrs 1015 0 (by decide)]; exact r8) hM)
  by_cases qb : bAnd (bShr O k) 1 = 1
  · have e1 : (if ¬ bAnd (bShr O k) 1 = 1 then (0 : Int) else 1) = 1 := if_neg (fun h => h qb)
    rw [e1] at hq0 fin
    rw [if_neg (fun h => h qb)]
    by_cases qw : (1 : Int) = w
    · rw [if_neg (fun h => h qw)]
      exact hq0 (if_pos qw)
    · rw [if_pos qw]
      exact fin (if_neg qw)
  · have e1 : (if ¬ bAnd (bShr O k) 1 = 1 then (0 : Int) else 1) = 0 := if_pos qb
    rw [e1] at hq0 fin
    rw [if_pos qb]
    by_cases qw : (0 : Int) = w
    · rw [if_neg (fun h => h qw)]
      exact hq0 (if_pos qw)
    · rw [if_pos qw]
      exact fin (if_neg qw)
theorem t_shut {Q : Int → jS → Prop} {k w : Int} (hn : 2 ≤ n) (hT : mTx σ T) (hU : rs σ 1016 0 = U)
    (hq0 : outB (tS T) U k w = 0 → Q 0 σ)
    (hq1 : outB (tS T) U k w = 1 → ∀ σ', sq [(1016, 0), (1063, 0), (1065, 0), (1070, 0)] σ σ' → rs σ' 1016 0 = bXor U (bShl 1 k) → mMem σ' [] → Q 1 σ') : TrI n i_Model_shut [jo 1 0, ji k, ji w] σ Q := by
  obtain ⟨p1, p2, p3, p4, p5, p6⟩ := hT
  have hS := p1.2.1
  have hS0 := p1.1
  unfold outB at hq0 hq1
  refine wp_Model_shut ⟨by omega, by omega, wp_Model_isScope ⟨by omega, ?_⟩⟩
  rw [p2]
  refine ⟨⟨by omega, by omega⟩, by omega, wp_Model_isIn ?_⟩
  by_cases q : k < 0
  · rw [if_pos q]
    refine ⟨Or.inl rfl, ?_⟩
    rw [if_pos rfl]
    exact hq0 (by rw [if_pos (by omega)])
  rw [if_neg q]
  by_cases q2 : tS T ≤ k
  · rw [if_pos (by omega)]
    refine ⟨Or.inl rfl, ?_⟩
    rw [if_pos rfl]
    exact hq0 (by rw [if_pos (by omega)])
  rw [if_neg (by omega)]
  refine ⟨Or.inr rfl, ?_⟩
  have nin : ¬ ¬ (0 ≤ k ∧ k < tS T) := fun h => h ⟨by omega, by omega⟩
  rw [if_neg nin] at hq0 hq1
  rw [if_neg (by decide)]
  refine wp_Model_has ?_
  rw [hU]
  have fin : (if (if ¬ bAnd (bShr U k) 1 = 1 then (0 : Int) else 1) = w then (0 : Int) else 1) = 1 → (∀ (zs8 : jS), zs8 = ws σ 1016 0 (bXor U (bShl 1 k)) → TrV (n - 1) i_Model_forget [jo 1 0] zs8 (fun zs11 => Q 1 zs11)) := by
    intro h1 s8 e8
    have f8 : sq [(1016, 0)] σ s8 := by rw [e8]; exact (sq.rf _ σ).pws 1016 0 _ (by decide)
    have r8 : rs s8 1016 0 = bXor U (bShl 1 k) := by rw [e8, rs_ws, if_pos ⟨rfl, rfl⟩]
    clear e8
    exact t_forget (fun s9 e9 hM => hq1 h1 s9 ((f8.mo (by decide)).tr (e9.mo (by decide))) (by rw [e9.nrs 1016 0 (by decide)]; exact r8) hM)
  by_cases qb : bAnd (bShr U k) 1 = 1
  · have e1 : (if ¬ bAnd (bShr U k) 1 = 1 then (0 : Int) else 1) = 1 := if_neg (fun h => h qb)
    rw [e1] at hq0 fin
    rw [if_neg (fun h => h qb)]
    by_cases qw : (1 : Int) = w
    · rw [if_neg (fun h => h qw)]
      exact hq0 (if_pos qw)
    · rw [if_pos qw]
      exact fin (if_neg qw)
  · have e1 : (if ¬ bAnd (bShr U k) 1 = 1 then (0 : Int) else 1) = 0 := if_pos qb
    rw [e1] at hq0 fin
    rw [if_pos qb]
    by_cases qw : (0 : Int) = w
    · rw [if_neg (fun h => h qw)]
      exact hq0 (if_pos qw)
    · rw [if_pos qw]
      exact fin (if_neg qw)
end ZOu
