/-! What two given ones have to do with each other. -/
noncomputable def spV (T : zT) (i j : Int) : Int := if ¬ ((0 ≤ i ∧ i < tG T) ∧ 0 ≤ j ∧ j < tG T) then -1 else if dcd (spc T i j) = true then 1 else if dcd (spc T j i) = true then 2 else if dcd (becm (tR T j 0) (tR T i 0)) = true then 3 else if dcd (twP false (tR T i 0) (tR T j 0)) = true then 4 else 0
def hpF : List (Nat × Int) := [(1027, 0), (1028, 0), (1029, 0), (1030, 0), (1031, 0), (1032, 0), (1033, 0), (1034, 0), (1035, 0), (1036, 0), (1037, 0), (1038, 0), (1039, 0), (1040, 0)]
/-- what comes of two, in the reference -/
def twM (sh : Bool) (r1 r2 : List Int) (b : Int) (new : List (Int × Int)) : Prop := (b = 1 ∧ twP sh r1 r2 ∧ rep (lB sh r1 r2).1 (lB sh r1 r2).2.1 new [(xA r1, yB sh r1 r2)]) ∨ (b = 0 ∧ ¬ twP sh r1 r2)
section ZSp
variable {n : Nat} {σ0 σ σ1 : jS} {T : zT} {M : zM} {r r1 r2 : List Int} {sh : Bool} {g : zH} {N : Int} {i j : Int}
theorem twM_of {Rs : List Int} {b : Int} {new : List (Int × Int)} (hr : rep (lB sh r1 r2).1 (lB sh r1 r2).2.1 [] []) (hz : zok (lB sh r1 r2).1 (lB sh r1 r2).2.1) (hb : bok (lB sh r1 r2).1 (lB sh r1 r2).2.1 (new ++ [])) (h : uOk (lB sh r1 r2).1 (lB sh r1 r2).2.1 [] Rs (xA r1) (yB sh r1 r2) b new) : twM sh r1 r2 b (new ++ []) := by
  rcases h with ⟨e, d1, d2, d4, d3⟩ | ⟨e, d3⟩
  · exact Or.inl ((twO_of hr hz hb d1 (Or.inl ⟨e, d1, d2, d4, d3⟩)).2.2.resolve_right (fun w => by omega))
  · refine Or.inr ⟨e, ?_⟩
    rintro ⟨ρ, w1, w2⟩
    exact d3 ρ (sol_iff.mpr ⟨w1, fun n _ _ _ w => absurd rfl w⟩) w2
theorem spV_no (h : ¬ ((0 ≤ i ∧ i < tG T) ∧ 0 ≤ j ∧ j < tG T)) : spV T i j = -1 := if_pos h
theorem spV_1 (h : (0 ≤ i ∧ i < tG T) ∧ 0 ≤ j ∧ j < tG T) (h1 : spc T i j) : spV T i j = 1 := by
  unfold spV
  rw [if_neg (fun w => w h), if_pos (dcd_iff.mpr h1)]
theorem spV_2 (h : (0 ≤ i ∧ i < tG T) ∧ 0 ≤ j ∧ j < tG T) (h1 : ¬ spc T i j) (h2 : spc T j i) : spV T i j = 2 := by
  unfold spV
  rw [if_neg (fun w => w h), if_neg (fun w => h1 (dcd_iff.mp w)), if_pos (dcd_iff.mpr h2)]
theorem spV_3 (h : (0 ≤ i ∧ i < tG T) ∧ 0 ≤ j ∧ j < tG T) (h1 : ¬ spc T i j) (h2 : ¬ spc T j i) (h3 : becm (tR T j 0) (tR T i 0)) : spV T i j = 3 := by
  unfold spV
  rw [if_neg (fun w => w h), if_neg (fun w => h1 (dcd_iff.mp w)), if_neg (fun w => h2 (dcd_iff.mp w)), if_pos (dcd_iff.mpr h3)]
theorem spV_4 (h : (0 ≤ i ∧ i < tG T) ∧ 0 ≤ j ∧ j < tG T) (h1 : ¬ spc T i j) (h2 : ¬ spc T j i) (h3 : ¬ becm (tR T j 0) (tR T i 0)) (h4 : twP false (tR T i 0) (tR T j 0)) : spV T i j = 4 := by
  unfold spV
  rw [if_neg (fun w => w h), if_neg (fun w => h1 (dcd_iff.mp w)), if_neg (fun w => h2 (dcd_iff.mp w)), if_neg (fun w => h3 (dcd_iff.mp w)), if_pos (dcd_iff.mpr h4)]
theorem spV_0 (h : (0 ≤ i ∧ i < tG T) ∧ 0 ≤ j ∧ j < tG T) (h1 : ¬ spc T i j) (h2 : ¬ spc T j i) (h3 : ¬ becm (tR T j 0) (tR T i 0)) (h4 : ¬ twP false (tR T i 0) (tR T j 0)) : spV T i j = 0 := by
  unfold spV
  rw [if_neg (fun w => w h), if_neg (fun w => h1 (dcd_iff.mp w)), if_neg (fun w => h2 (dcd_iff.mp w)), if_neg (fun w => h3 (dcd_iff.mp w)), if_neg (fun w => h4 (dcd_iff.mp w))]
theorem tok_rw (h : tok T) (i0 : 0 ≤ i) (i1 : i < tG T) : rwk (tR T i 0) := by
  have := h.2.2.2.2.2 i i0 i1
  exact this.2.2.2.2 0 this.2.2.1
theorem c_special {Q : Int → jS → Prop} (hn : 8 ≤ n) (hZ : cZ σ T M) (hq : ∀ σ', cq twF σ σ' → cZ σ' T M → Q (spV T i j) σ') : TrI n i_Top_special [jo 12 0, ji i, ji j] σ Q := by
  have hZ0 := hZ
  obtain ⟨z1, z2, z3, z4, z5, z6, z7⟩ := hZ
  obtain ⟨p1, tx, p2, p3, p4, p5, p6, p7, p8, p9⟩ := z3
  have hq0 := hq σ (cq.rf _ σ) hZ0
  have hG := p1.2.2.2.1
  refine wp_Top_special ⟨by omega, by omega, by omega, ?_⟩
  rw [p4]
  refine c_hasGiven (by omega) p6 p1 ?_
  by_cases qi : 0 ≤ i ∧ i < tG T
  · rw [show (if 0 ≤ i ∧ i < tG T then (1 : Int) else 0) = 1 from if_pos qi, if_neg (by decide), p4]
    refine ⟨by omega, c_hasGiven (by omega) p6 p1 ?_⟩
    by_cases qj : 0 ≤ j ∧ j < tG T
    · rw [show (if 0 ≤ j ∧ j < tG T then (1 : Int) else 0) = 1 from if_pos qj, if_pos (by decide), p4]
      have hin : (0 ≤ i ∧ i < tG T) ∧ 0 ≤ j ∧ j < tG T := ⟨qi, qj⟩
      have hcs : ∀ g, 0 ≤ g → g < tG T → bse (ra σ 10009 tx g) (fun c => 0 ≤ c ∧ c < tG T ∧ becm (tR T g 0) (tR T c 0)) := fun g g0 g1 => (p9 g g0 g1).2.2.2
      refine ⟨by omega, c_isCase (by omega) p2 z1 p6 p1 hcs qj.1 qj.2 qi.1 qi.2 (fun z1' hz1 => ?_)⟩
      rw [p4]
      refine ⟨by omega, c_isCase (by omega) p2 z1 p6 p1 hcs qi.1 qi.2 qj.1 qj.2 (fun z2' hz2 => ?_)⟩
      rcases hz1 with ⟨a1, a2⟩ | ⟨a1, a2⟩ <;> rcases hz2 with ⟨b1, b2⟩ | ⟨b1, b2⟩
      · rw [if_pos (by omega), if_neg (by omega)]
        rw [spV_3 hin (fun w => w.2 b2) (fun w => w.2 a2) a2] at hq0
        exact hq0
      · rw [if_neg (by omega), if_neg (by omega)]
        rw [spV_1 hin ⟨a2, b2⟩] at hq0
        exact hq0
      · rw [if_neg (by omega), if_pos (by omega)]
        rw [spV_2 hin (fun w => w.2 b2) ⟨b2, a2⟩] at hq0
        exact hq0
      · rw [if_pos (by omega), if_pos (by omega), p4]
        have t127 := cC_at z2 12007 0 0 (by decide)
        refine ⟨by omega, c_partFlat (i := 0) p2 z1 p7 qi.1 (by omega) (by omega) ?_⟩
        rw [p4]
        refine ⟨by omega, c_partFlat (i := 0) p2 z1 p7 qj.1 (by omega) (by omega) ?_⟩
        rw [t127]
        refine ⟨by omega, c_canMeet (by omega) hZ0 ((p9 i qi.1 qi.2).2.2.1 0 (p1.2.2.2.2.2 i qi.1 qi.2).2.2.1) ((p9 j qj.1 qj.2).2.2.1 0 (p1.2.2.2.2.2 j qj.1 qj.2).2.2.1) (tok_rw p1 qi.1 qi.2) (tok_rw p1 qj.1 qj.2) (fun b σ' e1 e2 hb => ?_)⟩
        have hq1 := hq σ' e1 e2
        rcases hb with ⟨c1, c2⟩ | ⟨c1, c2⟩
        · rw [if_neg (by omega)]
          rw [spV_4 hin (fun w => a2 w.1) (fun w => b2 w.1) a2 c2] at hq1
          exact hq1
        · rw [if_pos c1]
          rw [spV_0 hin (fun w => a2 w.1) (fun w => b2 w.1) a2 c2] at hq1
          exact hq1
    · rw [show (if 0 ≤ j ∧ j < tG T then (1 : Int) else 0) = 0 from if_neg qj, if_neg (by decide)]
      rw [spV_no (fun w => qj w.2)] at hq0
      exact hq0
  · rw [show (if 0 ≤ i ∧ i < tG T then (1 : Int) else 0) = 0 from if_neg qi, if_pos rfl]
    rw [spV_no (fun w => qi w.1)] at hq0
    exact hq0
theorem t_beginHeap {Q : jS → Prop} (hm : mln σ) (hq : ∀ σ', sq [(1033, 0), (1034, 0), (1035, 0)] σ σ' → mT σ' gz0 0 [] → rs σ' 1034 0 = 0 → Q σ') : TrV n i_Model_beginHeap [jo 1 0] σ Q := by
  refine wp_Model_beginHeap ⟨by omega, fun s3 e3 s4 e4 s5 e5 => ?_⟩
  have F : sq [(1033, 0), (1034, 0), (1035, 0)] σ s5 := by
    rw [e5, e4, e3]
    exact (((sq.rf _ σ).pws 1033 0 _ (by decide)).pws 1034 0 _ (by decide)).pws 1035 0 _ (by decide)
  have v33 : rs s5 1033 0 = 0 := by rw [e5, e4, e3]; rfl
  have v34 : rs s5 1034 0 = 0 := by rw [e5, e4]; rfl
  have v35 : rs s5 1035 0 = 0 := by rw [e5]; rfl
  clear e3 e4 e5
  refine hq s5 F ⟨hm.sq F, fun n n0 n1 => absurd n1 (by omega), trivial, v33, by omega, by omega, ?_, fun n n0 n1 => absurd n1 (by omega), by rw [v34]; omega, fun n n0 n1 => absurd n1 (by omega), fun n n0 n1 => absurd n1 (by omega), v35, trivial⟩ v34
  show cnt _ (zrg 0) ≤ 20000
  exact Nat.zero_le _
theorem ind1 {σ : jS} {i : Int} (hm : mln σ) (hT : mTx σ T) (hn : 2 ≤ n) {Q : Int → jS → Prop} (h0 : ¬ (0 ≤ i ∧ i < tG T) → Q 0 σ) (h1 : 0 ≤ i ∧ i < tG T → Q 1 σ) : TrI n i_Model_isGiven [jo 1 0, ji i] σ Q := by
  obtain ⟨p1, p2, p3, p4, p5, p6⟩ := hT
  have hG := p1.2.2.2.1
  have hG0 := p1.2.2.1
  refine wp_Model_isGiven ⟨by omega, ?_⟩
  rw [p3]
  refine ⟨⟨by omega, by omega⟩, by omega, wp_Model_isIn ?_⟩
  by_cases q : i < 0
  · rw [if_pos q]; exact ⟨Or.inl rfl, h0 (by omega)⟩
  · rw [if_neg q]
    by_cases q2 : tG T - 1 < i
    · rw [if_pos q2]; exact ⟨Or.inl rfl, h0 (by omega)⟩
    · rw [if_neg q2]; exact ⟨Or.inr rfl, h1 (by omega)⟩
theorem t_special {Q : Int → jS → Prop} (hn : 5 ≤ n) (hm : mln σ) (hT : mTx σ T) (hq : ∀ σ', sq hpF σ σ' → Q (spV T i j) σ') : TrI n i_Model_special [jo 1 0, ji i, ji j] σ Q := by
  have hT0 := hT
  have hq0 := hq σ (sq.rf _ σ)
  obtain ⟨p1, p2, p3, p4, p5, p6⟩ := hT
  have hG := p1.2.2.2.1
  have l26 := mln_at hm 1026 576 (by decide)
  have l12 := mln_at hm 1012 120 (by decide)
  refine wp_Model_special ⟨by omega, by omega, ind1 hm hT0 (by omega) (fun qi => ?_) (fun qi => ?_)⟩
  · rw [if_pos rfl]
    rw [spV_no (fun w => qi w.1)] at hq0
    exact hq0
  rw [if_neg (by decide)]
  refine ind1 hm hT0 (by omega) (fun qj => ?_) (fun qj => ?_)
  · rw [if_neg (by decide)]
    rw [spV_no (fun w => qj w.2)] at hq0
    exact hq0
  have hin : (0 ≤ i ∧ i < tG T) ∧ 0 ≤ j ∧ j < tG T := ⟨qi, qj⟩
  rw [if_pos (by decide), l26]
  refine ⟨by omega, ⟨by omega, by omega⟩, ⟨by omega, by omega⟩, by omega, by omega, ?_⟩
  rcases p6 i j qi.1 qi.2 qj.1 qj.2 with ⟨a1, a2⟩ | ⟨a1, a2⟩
  · rw [if_neg (by omega)]
    rw [spV_1 hin a2] at hq0
    exact hq0
  rw [if_pos a1]
  refine ⟨⟨by omega, by omega⟩, ⟨by omega, by omega⟩, by omega, by omega, ?_⟩
  rcases p6 j i qj.1 qj.2 qi.1 qi.2 with ⟨b1, b2⟩ | ⟨b1, b2⟩
  · rw [if_neg (by omega)]
    rw [spV_2 hin a2 b2] at hq0
    exact hq0
  rw [if_pos b1, l12]
  refine ⟨⟨by omega, by omega⟩, by omega, ⟨by omega, by omega⟩, by omega, by omega, ⟨by omega, by omega⟩, ⟨by omega, by omega⟩, by omega, by omega, t_isPut (by omega) hm ⟨p2, p3, p4, p5⟩ p1 qi.1 qi.2 qj.1 qj.2 (fun v s2 e2 hv hvi => ?_)⟩
  by_cases qv : v = 0
  · rw [if_pos qv]
    have hnb : ¬ becm (tR T j 0) (tR T i 0) := fun w => by have := hvi.mpr w; omega
    refine t_beginHeap (hm.sq e2) (fun s3 e3 T3 v34 => ?_)
    have hT3 : mTx s3 T := (hT0.sq e2 (by decide)).sq e3 (by decide)
    have hi1 := tok_rw p1 qi.1 qi.2
    have hj1 := tok_rw p1 qj.1 qj.2
    have hi12 := hi1.2.2
    have hj12 := hj1.2.2
    have hz0 : zu gz0 0 = 0 := rfl
    refine t_layGiven0 (by omega) T3 hT3 qi.1 qi.2 (by omega) (by omega) (by rw [hz0]; omega) (fun s4 hl1 => ?_)
    obtain ⟨c1, c2, c3, c4, c5, c6, c7, c8⟩ := hl1
    have lk1 : lok gz0 0 (fun _ => -1) (tR T i 0) (lA (tR T i 0)).1 (lA (tR T i 0)).2.1 (lA (tR T i 0)).2.2.1 (lA (tR T i 0)).2.2.2 := c8
    have hzu := lk1.2.2.2.2.2.2.2.2.2.2.2.1
    have n1 := lk1.2.1
    have u26 := unu_26 (fun _ => -1)
    have T4 : mT s4 (lA (tR T i 0)).1 (lA (tR T i 0)).2.1 [] := c1
    have hT4 : mTx s4 T := hT3.sq c3 (by decide)
    refine t_layGiven0 (by omega) T4 hT4 qj.1 qj.2 (by omega) (by omega) (by omega) (fun s5 hl2 => ?_)
    obtain ⟨d1, d2, d3, d4, d5, d6, d7, d8⟩ := hl2
    have T5 : mT s5 (lB false (tR T i 0) (tR T j 0)).1 (lB false (tR T i 0) (tR T j 0)).2.1 [] := d1
    have lk2 : lok (lA (tR T i 0)).1 (lA (tR T i 0)).2.1 (vsB false (tR T i 0)) (tR T j 0) (lB false (tR T i 0) (tR T j 0)).1 (lB false (tR T i 0) (tR T j 0)).2.1 (lB false (tR T i 0) (tR T j 0)).2.2.1 (lB false (tR T i 0) (tR T j 0)).2.2.2 := d8
    obtain ⟨a1', a2', a3', a4', a5', a6', a7'⟩ := lB_ok hi1 hj1 lk2
    show TrI (n - 1) i_Model_isUnified [jo 1 0, ji (xA (tR T i 0)), ji (yB false (tR T i 0) (tR T j 0))] s5 _
    obtain ⟨R1, m1, m2, m3, m4⟩ := sml_ex a2' a1'.1 a1'.2.1 (xA (tR T i 0)) a3'.1 a3'.2
    obtain ⟨R2, u21, u22, u23, u24⟩ := sml_ex a2' a1'.1 a1'.2.1 (yB false (tR T i 0) (tR T j 0)) a4'.1 a4'.2
    have hRl : (R1 ++ R2).length ≤ 200 := by rw [List.length_append]; omega
    refine t_isUnified (Rs := R1 ++ R2) (by omega) hRl T5 a1'.2.1 (sml_app m2 u22) a3'.1 a3'.2 a4'.1 a4'.2 (List.mem_append_left _ m1) (List.mem_append_right _ u21) (fun bb new s6 f1 f2 f3 => ?_)
    have tw := twM_of a1' a2' f1.2.2.1 f3
    have eall : sq hpF σ s6 := ((((e2.mo (by decide)).tr (e3.mo (by decide))).tr (c3.mo (by decide))).tr (d3.mo (by decide))).tr (f2.mo (by decide))
    have hq1 := hq s6 eall
    rcases tw with ⟨w1, w2, -⟩ | ⟨w1, w2⟩
    · rw [if_neg (by omega)]
      rw [spV_4 hin a2 b2 hnb w2] at hq1
      exact hq1
    · rw [if_pos w1]
      rw [spV_0 hin a2 b2 hnb w2] at hq1
      exact hq1
  · rw [if_neg qv]
    have hq1 := hq s2 (e2.mo (by decide))
    rw [spV_3 hin a2 b2 (hvi.mp (by omega))] at hq1
    exact hq1
end ZSp
