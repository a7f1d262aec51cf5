/-! What two types have to do with each other. -/
theorem cno_ge : ∀ {l s : List Int}, ∀ t, t ∈ cno s l → -(((s.length + l.length : Nat) : Int)) ≤ t := by
  intro l
  induction l with
  | nil => intro s t h; cases h
  | cons a l ih =>
    intro s t h
    rw [cno_cons] at h
    rw [List.length_cons]
    by_cases q : a < 0
    · rw [if_pos q] at h
      rcases List.mem_cons.mp h with w | w
      · have := ixo_le (s := s) (t := a)
        omega
      · have := ih t w
        by_cases qs : a ∈ s
        · rw [if_pos qs] at this
          omega
        · rw [if_neg qs, List.length_append, List.length_cons, List.length_nil] at this
          omega
    · rw [if_neg q] at h
      rcases List.mem_cons.mp h with w | w
      · omega
      · have := ih t w
        omega
noncomputable def covB (r r' : List Int) : Bool := dcd (covE r r')
noncomputable def reV (r1 r2 : List Int) (w : Int) : Int := if w = 0 then (if dcd (twP true r1 r2) = true then 1 else 0) else if w = 1 then (if dcd (becm r2 r1) = true then 1 else 0) else if w = 2 then (if dcd (r2.length ≤ r1.length ∧ covE r1 r2) = true then 1 else 0) else if w = 3 then (if dcd (twP true r1 r2 ∧ (twR true r1 r2).length ≤ 100) = true then (((twR true r1 r2).length : Nat) : Int) else -1) else -1
/-- the types that are told: the class; the reference -/
def pYc (σ : jS) (Y : Nat → List Int) : Prop := ∀ i : Nat, i < 4 → rwk (Y i) ∧ ra σ 12001 0 ((i : Nat) : Int) = 247 + ((i : Nat) : Int) ∧ fT σ (247 + ((i : Nat) : Int)) (Y i)
def pYm (σ : jS) (Y : Nat → List Int) : Prop := ∀ i : Nat, i < 4 → rwk (Y i) ∧ ra σ 1047 0 ((i : Nat) : Int) = (((Y i).length : Nat) : Int) ∧ rwA σ 1046 (12 * ((i : Nat) : Int)) (Y i)
def h1F : List (Nat × Int) := (1111, 0) :: hpF
section ZRe
variable {n : Nat} {σ0 σ σ1 : jS} {T : zT} {M : zM} {r r1 r2 : List Int} {i j : Nat} {Y : Nat → List Int}
theorem twR_rng (h1 : rwk r1) (h2 : rwk r2) (hp : twP true r1 r2) {new : List (Int × Int)} (hz : zok (lB true r1 r2).1 (lB true r1 r2).2.1) (hr : rep (lB true r1 r2).1 (lB true r1 r2).2.1 new [(xA r1, yB true r1 r2)]) (x0 : 0 ≤ xA r1) (x1 : xA r1 < (lB true r1 r2).2.1) (hl : (twR true r1 r2).length ≤ 100) : ∀ t, t ∈ twR true r1 r2 → -2600 ≤ t ∧ t < 104 := by
  have er : twR true r1 r2 = cno [] (ex (lB true r1 r2).1 (lB true r1 r2).2.1 new (xA r1)) := rowE_eq hz hr x0 x1
  intro t ht
  rw [er] at ht hl
  rw [cno_len] at hl
  have a := cno_ge t ht
  have b := cno_lt (ex_lt hz hr.1 hr.2.1 x0 x1) t ht
  rw [List.length_nil] at a
  omega
theorem twB_ok (h1 : rwk r1) (h2 : rwk r2) : rep (lB true r1 r2).1 (lB true r1 r2).2.1 [] [] ∧ zok (lB true r1 r2).1 (lB true r1 r2).2.1 ∧ (0 ≤ xA r1 ∧ xA r1 < (lB true r1 r2).2.1) ∧ (0 ≤ yB true r1 r2 ∧ yB true r1 r2 < (lB true r1 r2).2.1) ∧ (lB true r1 r2).2.1 ≤ 24 ∧ (ex (lB true r1 r2).1 (lB true r1 r2).2.1 [] (xA r1)).length ≤ 12 ∧ (ex (lB true r1 r2).1 (lB true r1 r2).2.1 [] (yB true r1 r2)).length ≤ 12 :=
  lB_ok h1 h2 (lok_all (lA_lok h1).2.2.2.1 (lA_lok h1).1 (by
    unfold vsB
    exact (lA_lok h1).2.2.2.2.1) h2.1 h2.2.1 : lok (lA r1).1 (lA r1).2.1 (vsB true r1) r2 (lB true r1 r2).1 (lB true r1 r2).2.1 (lB true r1 r2).2.2.1 (lB true r1 r2).2.2.2)
/-- two types that are told are made one: the reference -/
theorem t_areUnified {Q : Int → jS → Prop} (hn : 4 ≤ n) (hm : mln σ) (hY : pYm σ Y) (hi : i < 4) (hj : j < 4)
    (hq : ∀ b new σ', sq h1F σ σ' → mT σ' (lB true (Y i) (Y j)).1 (lB true (Y i) (Y j)).2.1 new → rs σ' 1111 0 = xA (Y i) → twM true (Y i) (Y j) b new → Q b σ') : TrI n i_Model_areUnified [jo 1 0, ji ((i : Nat) : Int), ji ((j : Nat) : Int)] σ Q := by
  have l46 := mln_at hm 1046 48 (by decide)
  have l47 := mln_at hm 1047 4 (by decide)
  obtain ⟨a1, a2, a3, a4, a5⟩ := hY i hi
  obtain ⟨b1, b2, b3, b4, b5⟩ := hY j hj
  have hi12 := a1.2.2
  have hj12 := b1.2.2
  have hz0 : zu gz0 0 = 0 := rfl
  have u26 := unu_26 (fun _ => -1)
  refine wp_Model_areUnified ⟨by omega, by omega, t_beginHeap hm (fun s3 e3 T3 v34 => t_newUnknowns (hm.sq e3) (fun s5 f5 V5 => ?_))⟩
  have e5 : sq [(1033, 0), (1034, 0), (1035, 0), (1036, 0)] σ s5 := (e3.mo (by decide)).tr (f5.mo (by decide))
  have T5 : mT s5 gz0 0 [] := T3.sq f5 (by decide)
  rw [e5.nrl 1046 0, e5.nrl 1047 0, l46, l47, e5.nra 1047 0 _ (by decide), a2]
  refine ⟨by omega, ⟨by omega, by omega⟩, by omega, by omega, by omega, t_layRow (r := Y i) (g := gz0) (N := 0) (β := []) (vs := fun _ => -1) (by omega) T5 V5 (fun v => Or.inl rfl) rfl rfl (by decide) (by omega) (by rw [e5.nrl 1046 0, l46]; omega) (fun k hk => by rw [e5.nra 1046 0 _ (by decide)]; exact a5 k hk) a1.2.1 a1.1 (by omega) (by rw [f5.nrs 1034 0 (by decide), v34]; omega) (by rw [hz0]; omega) (by omega) (by omega) (fun s12 hl1 s14 e14 => ?_)⟩
  obtain ⟨c1, c2, c3, c4, c5, c6, c7, c8⟩ := hl1
  have lk1 : lok gz0 0 (fun _ => -1) (Y i) (lA (Y i)).1 (lA (Y i)).2.1 (lA (Y i)).2.2.1 (lA (Y i)).2.2.2 := c8
  have hzu := lk1.2.2.2.2.2.2.2.2.2.2.2.1
  have n1 := lk1.2.1
  have f14 : sq [(1111, 0)] s12 s14 := by rw [e14]; exact (sq.rf _ s12).pws 1111 0 _ (by decide)
  have r14 : rs s14 1111 0 = xA (Y i) := by rw [e14, rs_ws, if_pos ⟨rfl, rfl⟩]; rfl
  clear e14
  have T14 : mT s14 (lA (Y i)).1 (lA (Y i)).2.1 [] := (show mT s12 (lA (Y i)).1 (lA (Y i)).2.1 [] from c1).sq f14 (by decide)
  have V14 : mV s14 (lA (Y i)).2.2.1 := fun v v0 v1 => by rw [f14.nra 1036 0 _ (by decide)]; exact c2 v v0 v1
  have e514 : sq ((1111, 0) :: lF) s5 s14 := (c3.mo (by decide)).tr (f14.mo (by decide))
  have e014 : sq h1F σ s14 := (e5.mo (by decide)).tr (e514.mo (by decide))
  rw [e014.nrl 1046 0, e014.nrl 1047 0, l46, l47, e014.nra 1047 0 _ (by decide), b2, r14]
  have u1 := unu_26 (lA (Y i)).2.2.1
  refine ⟨by omega, ⟨by omega, by omega⟩, by omega, by omega, by omega, t_layRow (r := Y j) (g := (lA (Y i)).1) (N := (lA (Y i)).2.1) (β := []) (vs := (lA (Y i)).2.2.1) (by omega) T14 V14 lk1.2.2.2.2.1 rfl rfl (by decide) (by omega) (by rw [e014.nrl 1046 0, l46]; omega) (fun k hk => by rw [e014.nra 1046 0 _ (by decide)]; exact b5 k hk) b1.2.1 b1.1 (by omega) (by rw [f14.nrs 1034 0 (by decide)]; rw [f5.nrs 1034 0 (by decide), v34] at c7; omega) (by omega) (by omega) (by omega) (fun s20 hl2 => ?_)⟩
  obtain ⟨d1, d2, d3, d4, d5, d6, d7, d8⟩ := hl2
  have T20 : mT s20 (lB true (Y i) (Y j)).1 (lB true (Y i) (Y j)).2.1 [] := d1
  obtain ⟨k1, k2, k3, k4, k5, k6, k7⟩ := twB_ok a1 b1
  show TrI (n - 1) i_Model_isUnified [jo 1 0, ji (xA (Y i)), ji (yB true (Y i) (Y j))] s20 _
  obtain ⟨R1, m1, m2, m3, m4⟩ := sml_ex k2 k1.1 k1.2.1 (xA (Y i)) k3.1 k3.2
  obtain ⟨R2, u21, u22, u23, u24⟩ := sml_ex k2 k1.1 k1.2.1 (yB true (Y i) (Y j)) k4.1 k4.2
  have hRl : (R1 ++ R2).length ≤ 200 := by rw [List.length_append]; omega
  refine t_isUnified (Rs := R1 ++ R2) (by omega) hRl T20 k1.2.1 (sml_app m2 u22) k3.1 k3.2 k4.1 k4.2 (List.mem_append_left _ m1) (List.mem_append_right _ u21) (fun bb new s22 f1 f2 f3 => ?_)
  have tw := twM_of k1 k2 f1.2.2.1 f3
  refine ⟨by rcases tw with ⟨w, -⟩ | ⟨w, -⟩ <;> omega, hq bb (new ++ []) s22 ((e014.tr (d3.mo (by decide))).tr (f2.mo (by decide))) f1 ?_ tw⟩
  rw [f2.nrs 1111 0 (by decide), d3.nrs 1111 0 (by decide)]
  exact r14
theorem ltr_eq {b b' : Int} (h : ltr b r1) (h' : ltr b' r2) : b = b' ↔ covE r1 r2 := by
  constructor
  · intro e k k0 k1
    rw [← h.2 k k0 k1, ← h'.2 k k0 k1, e]
  · intro e
    refine tb_ext h.1 h'.1 (fun k k0 k1 => ?_)
    have := e k k0 k1
    rw [← h.2 k k0 k1, ← h'.2 k k0 k1] at this
    cases p : tb b k <;> cases q : tb b' k <;> simp_all
theorem rwk_fP {o : Int} (h : fT σ o r) (hr : rwk r) : fP σ o r := h.fP (by have := hr.2.2; omega) (fun t ht => (hr.2.1 t ht).2)
set_option maxRecDepth 8000 in
theorem c_relation {Q : Int → jS → Prop} {w : Int} (hn : 8 ≤ n) (hZ : cZ σ T M) (hY : pYc σ Y) (hi : i < 4) (hj : j < 4)
    (hq : ∀ σ', cq ((4000, 0) :: (4000, 1) :: (twF ++ fF 1)) σ σ' → cZ σ' T M → Q (reV (Y i) (Y j) w) σ') : TrI n i_Top_relation [jo 12 0, ji ((i : Nat) : Int), ji ((j : Nat) : Int), ji w] σ Q := by
  have hZ0 := hZ
  obtain ⟨z1, z2, z3, z4, z5, z6, z7⟩ := hZ
  have z30 := z3
  obtain ⟨p1, tx, p2, p3, p4, p5, p6, p7, p8, p9⟩ := z3
  have l01 := cln_at z1 12001 0 4 (by decide)
  obtain ⟨a1, a2, a3⟩ := hY i hi
  obtain ⟨b1, b2, b3⟩ := hY j hj
  have t127 := cC_at z2 12007 0 0 (by decide)
  have t123 := cC_at z2 12003 0 1 (by decide)
  have hq0 := hq σ (cq.rf _ σ) hZ0
  refine wp_Top_relation ⟨by omega, by omega, c_hasType z1 (fun w => absurd (show 0 ≤ ((i : Nat) : Int) ∧ ((i : Nat) : Int) < 4 by omega) w) (fun _ => ?_)⟩
  rw [if_neg (by decide)]
  refine c_hasType z1 (fun w => absurd (show 0 ≤ ((j : Nat) : Int) ∧ ((j : Nat) : Int) < 4 by omega) w) (fun _ => ?_)
  rw [if_pos (by decide), l01, t127, t123, a2, b2, p4]
  by_cases q0 : w = 0
  · rw [if_pos q0]
    refine ⟨by omega, by omega, by omega, by omega, by omega, by omega, c_join (by omega) hZ0 a3 b3 a1 b1 (fun b σ' e1 e2 hb => ?_)⟩
    have hq1 := hq σ' (e1.mo (by decide)) e2
    unfold reV at hq1
    rw [if_pos q0] at hq1
    rcases hb with ⟨c1, c2, -⟩ | ⟨c1, c2⟩
    · rw [if_neg (by omega)]
      rw [if_pos (dcd_iff.mpr c2)] at hq1
      exact hq1
    · rw [if_pos c1]
      rw [if_neg (fun w => c2 (dcd_iff.mp w))] at hq1
      exact hq1
  rw [if_neg q0]
  by_cases q1 : w = 1
  · rw [if_pos q1]
    have h107 : rs σ 10007 tx = tx := by
      rcases p2 with w | w
      · rw [w]; exact cC_at z2 10007 0 0 (by decide)
      · rw [w]; exact cC_at z2 10007 1 1 (by decide)
    have l4 : rl σ 4000 tx = 26 := by rcases p2 with w | w <;> rw [w]; exact cln_at z1 4000 0 26 (by decide); exact cln_at z1 4000 1 26 (by decide)
    rw [h107]
    refine ⟨by omega, by omega, by omega, by omega, by omega, by omega, by omega, c_becomes (by omega) l4 (by omega) a3 b3 a1 b1 (fun v σ' e1 hv hvi => ?_)⟩
    have g1 : sq ((4000, 0) :: (4000, 1) :: (twF ++ fF 1)) σ σ' := by
      rcases p2 with w | w
      · rw [w] at e1; exact e1.mo (by decide)
      · rw [w] at e1; exact e1.mo (by decide)
    have g2 : sq [(4000, 0), (4000, 1)] σ σ' := by
      rcases p2 with w | w
      · rw [w] at e1; exact e1.mo (by decide)
      · rw [w] at e1; exact e1.mo (by decide)
    have hZ' : cZ σ' T M := hZ0.fq (sq_r1 g2) (by decide) (fun o _ => ⟨by simp, by simp⟩)
    have hq1 := hq σ' (g1.cq (by decide)) hZ'
    unfold reV at hq1
    rw [if_neg q0, if_pos q1] at hq1
    by_cases qv : v = 0
    · rw [if_pos qv]
      rw [if_neg (fun w => by have := hvi.mpr (dcd_iff.mp w); omega)] at hq1
      exact hq1
    · rw [if_neg qv]
      rw [if_pos (dcd_iff.mpr (hvi.mp (by omega)))] at hq1
      exact hq1
  rw [if_neg q1]
  by_cases q2 : w = 2
  · rw [if_pos q2]
    unfold reV at hq0
    rw [if_neg q0, if_neg q1, if_pos q2] at hq0
    rw [a3.2.1, b3.2.1]
    refine ⟨by omega, by omega, by omega, by omega, by omega, by omega, by omega, ?_⟩
    by_cases ql : (((Y i).length : Nat) : Int) < (((Y j).length : Nat) : Int)
    · rw [if_pos ql]
      rw [if_neg (fun w => by have := (dcd_iff.mp w).1; omega)] at hq0
      exact hq0
    · rw [if_neg ql]
      refine c_cover (by omega) (rwk_fP a3 a1) (fun x hx => ?_)
      rw [l01, b2]
      refine ⟨by omega, by omega, by omega, c_cover (by omega) (rwk_fP b3 b1) (fun y hy => ?_)⟩
      have he := ltr_eq hx hy
      by_cases qe : x = y
      · rw [if_neg (fun h => h qe)]
        rw [if_pos (dcd_iff.mpr ⟨by omega, he.mp qe⟩)] at hq0
        exact hq0
      · rw [if_pos qe]
        rw [if_neg (fun w => qe (he.mpr (dcd_iff.mp w).2))] at hq0
        exact hq0
  rw [if_neg q2]
  by_cases q3 : w = 3
  · rw [if_pos q3]
    refine ⟨by omega, by omega, by omega, by omega, by omega, by omega, c_join (by omega) hZ0 a3 b3 a1 b1 (fun b σ' e1 e2 hb => ?_)⟩
    have hq1 := hq σ' (e1.mo (by decide)) e2
    unfold reV at hq1
    rw [if_neg q0, if_neg q1, if_neg q2, if_pos q3] at hq1
    rcases hb with ⟨c1, c2, c3, c4⟩ | ⟨c1, c2⟩
    · rw [if_neg (by omega), cC_at e2.2.1 12003 0 1 (by decide), c3]
      refine ⟨by omega, ?_⟩
      by_cases qb : (twR true (Y i) (Y j)).length ≤ 100
      · rw [if_pos qb, if_neg (by omega)]
        rw [if_pos (dcd_iff.mpr ⟨c2, qb⟩)] at hq1
        exact hq1
      · rw [if_neg qb, if_pos (by omega)]
        rw [if_neg (fun w => qb (dcd_iff.mp w).2)] at hq1
        exact hq1
    · rw [if_pos c1]
      rw [if_neg (fun w => c2 (dcd_iff.mp w).1)] at hq1
      exact hq1
  rw [if_neg q3]
  unfold reV at hq0
  rw [if_neg q0, if_neg q1, if_neg q2, if_neg q3] at hq0
  exact hq0
end ZRe
