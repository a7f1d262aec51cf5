/-! What is found for a type at a scope: the class, the reference. -/
noncomputable def bsO (C : Int → Prop) : Int := Classical.epsilon (fun b => bse b C)
theorem bsO_eq {b : Int} {C : Int → Prop} (h : bse b C) : b = bsO C := bse_uni h (Classical.epsilon_spec (p := fun b => bse b C) ⟨b, h⟩)
noncomputable def caS (T : zT) (O U : Int) (r : List Int) (s : Int) : Int := bsO (canP T O U (lA r).1 (lA r).2.1 [] (xA r) s)
/-- the scopes from one outward -/
def chn (T : zT) : Nat → Int → List Int
  | 0, _ => []
  | n + 1, s => if s = -1 then [] else s :: chn T n (tA T s)
noncomputable def caR (T : zT) (O U : Int) (r : List Int) : List Int → Int → Int → Int → Int → Int × Int × Int × Int
  | [], l, f, a, b => (l, f, a, b)
  | s :: c, l, f, a, b => caR T O U r c (l + 1) (if ¬ caS T O U r s = 0 ∧ f = -1 then l else f) (bOr a (caS T O U r s)) (if ¬ caS T O U r s = 0 ∧ f = -1 then caS T O U r s else b)
noncomputable def bestS (T : zT) (b : Int) : Int := bsO (fun k => 0 ≤ k ∧ k < tG T ∧ tb b k = true ∧ ∀ c, 0 ≤ c → c < tG T → tb b c = true → ¬ spc T c k)
/-- what candidates answers -/
noncomputable def caV (T : zT) (O U : Int) (r : List Int) (k w : Int) : Int := if w = 0 then (caR T O U r (chn T 6 k) 0 (-1) 0 0).1 else if w = 1 then (caR T O U r (chn T 6 k) 0 (-1) 0 0).2.1 else if w = 2 then (caR T O U r (chn T 6 k) 0 (-1) 0 0).2.2.1 else bestS T (caR T O U r (chn T 6 k) 0 (-1) 0 0).2.2.2
theorem chn_m1 {T : zT} : ∀ n : Nat, chn T n (-1) = [] := fun n => by
  cases n with
  | zero => rfl
  | succ n => exact if_pos rfl
theorem caR_len (T : zT) (O U : Int) (r : List Int) : ∀ (c : List Int) (l f a b : Int), (caR T O U r c l f a b).1 = l + ((c.length : Nat) : Int) := by
  intro c
  induction c with
  | nil => intro l f a b; show l = l + 0; omega
  | cons s c ih =>
    intro l f a b
    show (caR T O U r c (l + 1) _ _ _).1 = _
    rw [ih, List.length_cons]
    omega
def kaF : List (Nat × Int) := (6000, 1) :: (7002, 0) :: (7014, 0) :: (7015, 0) :: (7016, 0) :: (7017, 0) :: twF
section ZKa
variable {n : Nat} {σ0 σ σ1 : jS} {T : zT} {M : zM} {r : List Int} {i : Nat} {Y : Nat → List Int} {O U k w : Int}
/-- the levels around a scope -/
theorem chn_len (hT : tok T) : ∀ (m : Nat) (s : Int), 0 ≤ s → s < tS T → tL T s < ((m : Nat) : Int) → ((chn T m s).length : Int) = tL T s + 1 := by
  intro m
  induction m with
  | zero =>
    intro s s0 s1 h
    have := hT.2.2.2.2.1 s s0 s1
    omega
  | succ m ih =>
    intro s s0 s1 h
    have hk := hT.2.2.2.2.1 s s0 s1
    have e : chn T (m + 1) s = s :: chn T m (tA T s) := if_neg (by omega)
    rw [e, List.length_cons]
    rcases hk.1 with ⟨w1, w2⟩ | ⟨w1, w2, w3⟩
    · rw [w1, chn_m1]
      show ((0 + 1 : Nat) : Int) = _
      omega
    · have := ih (tA T s) w1 (by omega) (by omega)
      omega
theorem tok_aro (hT : tok T) {s : Int} {m : Nat} (s0 : 0 ≤ s) (s1 : s < tS T) (h : tL T s < ((m + 1 : Nat) : Int)) : tA T s = -1 ∨ (0 ≤ tA T s ∧ tA T s < tS T ∧ tL T (tA T s) < ((m : Nat) : Int)) := by
  rcases (hT.2.2.2.2.1 s s0 s1).1 with ⟨w1, w2⟩ | ⟨w1, w2, w3⟩
  · exact Or.inl w1
  · exact Or.inr ⟨w1, by omega, by omega⟩
theorem c_aroundOf {Q : Int → jS → Prop} {tx s : Int} (hn : 1 ≤ n) (hc : cln σ) (htx : tx = 0 ∨ tx = 1) (hT : tok T) (h0 : rs σ 10000 tx = tS T) (h2 : ∀ k, 0 ≤ k → k < tS T → ra σ 10002 tx k = tA T k) (s0 : 0 ≤ s) (s1 : s < tS T) (hq : Q (tA T s) σ) : TrI n i_Text_aroundOf [jo 10 tx, ji s] σ Q := by
  have hS := hT.2.1
  have l2 : rl σ 10002 tx = 8 := by rcases htx with w | w <;> rw [w]; exact cln_at hc 10002 0 8 (by decide); exact cln_at hc 10002 1 8 (by decide)
  refine wp_Text_aroundOf ⟨by omega, hn, c_hasScope (by omega) h0 hT ?_⟩
  rw [show (if 0 ≤ s ∧ s < tS T then (1 : Int) else 0) = 1 from if_pos ⟨s0, s1⟩, if_neg (by decide), l2, h2 s s0 s1]
  exact ⟨by omega, s0, by omega, hq⟩
/-- terms begin anew -/
theorem cT_0 {l : List (Nat × Int)} (hZ : cZ σ T M) (f : sq l σ σ1) (h4 : l.contains (9004, 0) = false) (h0 : rs σ1 9000 0 = 0) (h1 : rs σ1 9001 0 = 0) : cT σ1 gz0 0 [] := by
  obtain ⟨z1, z2, z3, z4, ⟨z5a, z5b, z5c, z5d, z5e, z5f⟩, z6, z7⟩ := hZ
  have hL : ∀ G q, rl σ1 G q = rl σ G q := fun G q => f.nrl G q
  refine ⟨⟨z1.sq f, fun n n0 n1 => absurd n1 (by omega), trivial, h0, by omega, by omega, Nat.zero_le _, ⟨?_, by rw [hL]; exact z5a, by rw [hL, hL]; exact z5b, by rw [hL, hL]; exact z5c⟩, by rw [hL]; exact z5d, fun n n0 n1 => absurd n1 (by omega), fun n n0 n1 => absurd n1 (by omega), fun n n0 n1 => absurd n1 (by omega), ⟨by rw [h1]; rfl, ?_⟩, trivial⟩, fun i i0 i1 => ?_⟩
  · rw [hL]; unfold gr2 at z5a; omega
  · rw [hL]; show (0 : Int) ≤ _; unfold gr2 at z5d; omega
  · rw [hL] at i1
    rw [f.nra 9004 0 _ h4]
    exact z6 i i0 i1
theorem lA_ok (h : rwk r) : rep (lA r).1 (lA r).2.1 [] [] ∧ (0 ≤ xA r ∧ xA r < (lA r).2.1) ∧ (lA r).2.1 ≤ 12 ∧ zu (lA r).1 (lA r).2.1 ≤ 26 ∧ (ex (lA r).1 (lA r).2.1 [] (xA r)).length ≤ 12 := by
  have lk1 := lA_lok h
  have hl := h.2.2
  have rep1 : rep (lA r).1 (lA r).2.1 [] [] := (s00_ok (M := []) lk1 h).1
  have p1 := pile_in lk1 h.1
  have e1 := lay_exlen0 lk1 h.1 rep1.2.1
  have n1 := lk1.2.1
  have hzu := lk1.2.2.2.2.2.2.2.2.2.2.2.1
  have hz0 : zu gz0 0 = 0 := rfl
  have u26 := unu_26 (fun _ => -1)
  refine ⟨rep1, p1, by omega, by omega, ?_⟩
  show (ex (lA r).1 (lA r).2.1 [] ((lA r).2.2.2.headD 0)).length ≤ 12
  omega
theorem bestS_0 (hG : tG T ≤ 24) : bestS T 0 = 0 := (bsO_eq (bse_0 (fun k w => by rw [tb_0] at w; exact absurd w.2.2.1 (by decide)))).symm
set_option maxRecDepth 8000 in
theorem c_candidates {Q : Int → jS → Prop} (hn : 9 ≤ n) (hZ : cZ σ T M) (hO : rs σ 12009 0 = O) (hU : rs σ 12010 0 = U) (hY : pYc σ Y) (hi : i < 4) (k0 : 0 ≤ k) (k1 : k < tS T) (w0 : 0 ≤ w) (w3 : w ≤ 3)
    (hq : ∀ σ', cq kaF σ σ' → cZ σ' T M → Q (caV T O U (Y i) k w) σ') : TrI n i_Top_candidates [jo 12 0, ji ((i : Nat) : Int), ji k, ji w] σ Q := by
  have hZ0 := hZ
  obtain ⟨z1, z2, z3, z4, z5, z6, z7⟩ := hZ
  have z30 := z3
  obtain ⟨p1, tx, p2, p3, p4, p5, p6, p7, p8, p9⟩ := z3
  have l01 := cln_at z1 12001 0 4 (by decide)
  obtain ⟨a1, a2, a3⟩ := hY i hi
  have t127 := cC_at z2 12007 0 0 (by decide)
  have hk5 := (p1.2.2.2.2.1 k k0 k1).2
  have hG := p1.2.2.2.1
  have hS := p1.2.1
  have hi12 := a1.2.2
  refine wp_Top_candidates ⟨by omega, by omega, c_hasType z1 (fun w => absurd (show 0 ≤ ((i : Nat) : Int) ∧ ((i : Nat) : Int) < 4 by omega) w) (fun _ => ?_)⟩
  rw [if_neg (by decide), p4]
  refine ⟨by omega, c_hasScope (by omega) p5 p1 ?_⟩
  rw [show (if 0 ≤ k ∧ k < tS T then (1 : Int) else 0) = 1 from if_pos ⟨k0, k1⟩, if_neg (by decide), if_neg (by omega), if_pos w3]
  unfold caV at hq
  by_cases q0 : w = 0
  · rw [if_neg (fun h => h q0)]
    have l3 : rl σ 10003 tx = 8 := by rcases p2 with w | w <;> rw [w]; exact cln_at z1 10003 0 8 (by decide); exact cln_at z1 10003 1 8 (by decide)
    have hq0 := hq σ (cq.rf _ σ) hZ0
    rw [if_pos q0, caR_len, chn_len p1 6 k k0 k1 (by omega)] at hq0
    rw [p4, l3, (p8 k k0 k1).2.1]
    refine ⟨by omega, by omega, by omega, by omega, ⟨by omega, by omega⟩, ?_⟩
    rw [show (0 : Int) + (tL T k + 1) = tL T k + 1 by omega] at hq0
    exact hq0
  rw [if_pos q0, t127, hO, hU]
  refine ⟨by omega, c_begin (P := (T, O, U, k, true)) (M := M) (by omega) hZ0 (fun s9 f9 ⟨v90, v91, v92, v60, v14, v15, v16, v17⟩ v72 => ?_)⟩
  have C9 : cC s9 := z2.fq (sq_r1 f9) (by decide)
  have T9 : cT s9 gz0 0 [] := cT_0 hZ0 f9 (by decide) v90 v91
  rw [cC_at C9 12007 0 0 (by decide), cC_at C9 7000 0 0 (by decide), f9.nrl 12001 0, l01, f9.nra 12001 0 _ (by decide), a2]
  have hz0 : zu gz0 0 = 0 := rfl
  have u26 := unu_26 (fun _ => -1)
  refine ⟨by omega, by omega, by omega, by omega, by omega, c_build (g := gz0) (N := 0) (β := []) (vs := fun _ => -1) (by omega) T9 (a3.sq f9 (by decide)) (fun v => Or.inl rfl) (Or.inr ⟨rfl, rfl⟩) a1.2.1 a1.1 (by omega) (by rw [hz0]; omega) (by omega) (fun s16 T16 V16 q16 lk1 => ?_)⟩
  have T16 : cT s16 (lA (Y i)).1 (lA (Y i)).2.1 [] := T16
  have K9 : cq bnF σ s9 := f9.cq (by decide)
  have e16 : cq kaF σ s16 := (K9.mo (by decide)).tr (q16.mo (by decide))
  obtain ⟨o1, o2, o3, o4, o5⟩ := lA_ok a1
  have u15 : rs s16 7015 0 = O := by rw [q16.nrs 7015 0 (by decide) (by decide)]; exact v15
  have u16 : rs s16 7016 0 = U := by rw [q16.nrs 7016 0 (by decide) (by decide)]; exact v16
  show J n c_Top_candidates (some .int) 96 [some (jo 12 0), none, none, some (ji w), some (ji (xA (Y i))), some (ji (-1)), some (ji 0), some (ji 0), some (ji k), some (ji 0), none] [] s16 (qI Q)
  have loop : ∀ (m : Nat) (s l f a b bb : Int) (s2 : jS), l + ((m : Nat) : Int) = 6 → 0 ≤ l → (s = -1 ∨ (0 ≤ s ∧ s < tS T ∧ tL T s < ((m : Nat) : Int))) → cq kaF σ s2 → cT s2 (lA (Y i)).1 (lA (Y i)).2.1 [] → rs s2 7015 0 = O → rs s2 7016 0 = U → bb = bestS T b → caR T O U (Y i) (chn T m s) l f a b = caR T O U (Y i) (chn T 6 k) 0 (-1) 0 0 → J n c_Top_candidates (some .int) 96 [some (jo 12 0), none, none, some (ji w), some (ji (xA (Y i))), some (ji f), some (ji bb), some (ji a), some (ji s), some (ji l), none] [] s2 (qI Q) := by
    intro m
    induction m with
    | zero =>
      intro s l f a b bb s2 hl l0 hs e2 T2 v15 v16 hbb hR
      have Z2 : cZ s2 T M := hZ0.tw e2 T2 (by decide) (nofl3 (by decide))
      have hq1 := hq s2 e2 Z2
      have hR : (l, f, a, b) = caR T O U (Y i) (chn T 6 k) 0 (-1) 0 0 := hR
      rw [← hR, if_neg q0] at hq1
      refine wp_Top_candidates_96 ?_
      rw [if_pos (by omega)]
      by_cases q1 : w = 1
      · rw [if_neg (fun h => h q1)]
        rw [if_pos q1] at hq1
        exact hq1
      · rw [if_pos q1]
        rw [if_neg q1] at hq1
        by_cases q2 : w = 2
        · rw [if_neg (fun h => h q2)]
          rw [if_pos q2] at hq1
          exact hq1
        · rw [if_pos q2]
          rw [if_neg q2] at hq1
          rw [hbb]
          exact hq1
    | succ m ih =>
      intro s l f a b bb s2 hl l0 hs e2 T2 v15 v16 hbb hR
      have Z2 : cZ s2 T M := hZ0.tw e2 T2 (by decide) (nofl3 (by decide))
      refine wp_Top_candidates_96 ?_
      rw [if_neg (by omega)]
      by_cases qs : s = -1
      · rw [if_pos qs]
        have hq1 := hq s2 e2 Z2
        rw [qs, chn_m1] at hR
        have hR : (l, f, a, b) = caR T O U (Y i) (chn T 6 k) 0 (-1) 0 0 := hR
        rw [← hR, if_neg q0] at hq1
        by_cases q1 : w = 1
        · rw [if_neg (fun h => h q1)]
          rw [if_pos q1] at hq1
          exact hq1
        · rw [if_pos q1]
          rw [if_neg q1] at hq1
          by_cases q2 : w = 2
          · rw [if_neg (fun h => h q2)]
            rw [if_pos q2] at hq1
            exact hq1
          · rw [if_pos q2]
            rw [if_neg q2] at hq1
            rw [hbb]
            exact hq1
      · rw [if_neg qs]
        obtain ⟨s0, s1, sl⟩ := hs.resolve_left qs
        rw [show chn T (m + 1) s = s :: chn T m (tA T s) from if_neg qs] at hR
        have hR : caR T O U (Y i) (chn T m (tA T s)) (l + 1) (if ¬ caS T O U (Y i) s = 0 ∧ f = -1 then l else f) (bOr a (caS T O U (Y i) s)) (if ¬ caS T O U (Y i) s = 0 ∧ f = -1 then caS T O U (Y i) s else b) = caR T O U (Y i) (chn T 6 k) 0 (-1) 0 0 := hR
        have har := tok_aro p1 s0 s1 sl
        rw [cC_at Z2.2.1 12007 0 0 (by decide)]
        refine ⟨by omega, by omega, by omega, c_suited (by omega) T2 Z2.2.1 Z2.2.2.1 o1 (fun p hp => by cases hp) o2.1 o2.2 (by omega) (by omega) (by omega) s0 s1 (fun cs s4 T4 e4 hcs => ?_)⟩
        rw [v15, v16] at hcs
        have ecs : cs = caS T O U (Y i) s := bsO_eq hcs
        have e24 : cq kaF σ s4 := e2.tr (e4.mo (by decide))
        have Z4 : cZ s4 T M := hZ0.tw e24 T4 (by decide) (nofl3 (by decide))
        have v15' : rs s4 7015 0 = O := by rw [e4.nrs 7015 0 (by decide) (by decide)]; exact v15
        have v16' : rs s4 7016 0 = U := by rw [e4.nrs 7016 0 (by decide) (by decide)]; exact v16
        obtain ⟨y1, y2, ⟨b1, ty, b2, b3, b4, b5, b6, b7, b8, b9⟩, y4, y5, y6, y7⟩ := Z4
        rw [← ecs] at hR
        have hA : ∀ q, 0 ≤ q → q < tS T → ra s4 10002 ty q = tA T q := fun q q0 q1 => (b8 q q0 q1).1
        by_cases qc : cs = 0
        · rw [if_pos qc, b4]
          rw [if_neg (fun h => h.1 qc), if_neg (fun h => h.1 qc)] at hR
          exact ⟨by omega, c_aroundOf (by omega) y1 b2 b1 b5 hA s0 s1 ⟨⟨by omega, by omega⟩, ih (tA T s) (l + 1) f (bOr a cs) b bb s4 (by omega) (by omega) har e24 T4 v15' v16' hbb hR⟩⟩
        · rw [if_neg qc]
          by_cases qf : f = -1
          · rw [if_neg (fun h => h qf), b4]
            rw [if_pos ⟨qc, qf⟩, if_pos ⟨qc, qf⟩] at hR
            refine ⟨by omega, c_bestOf (C := fun k => tb cs k = true) (by omega) b2 y1 b6 b1 (fun g g0 g1 => (b9 g g0 g1).2.2.2) ⟨hcs.1, fun _ _ _ => Iff.rfl⟩ (fun b' hb' => ?_)⟩
            rw [b4]
            exact ⟨by omega, c_aroundOf (by omega) y1 b2 b1 b5 hA s0 s1 ⟨⟨by omega, by omega⟩, ih (tA T s) (l + 1) l (bOr a cs) cs b' s4 (by omega) (by omega) har e24 T4 v15' v16' (bsO_eq hb') hR⟩⟩
          · rw [if_pos qf, b4]
            rw [if_neg (fun h => qf h.2), if_neg (fun h => qf h.2)] at hR
            exact ⟨by omega, c_aroundOf (by omega) y1 b2 b1 b5 hA s0 s1 ⟨⟨by omega, by omega⟩, ih (tA T s) (l + 1) f (bOr a cs) b bb s4 (by omega) (by omega) har e24 T4 v15' v16' hbb hR⟩⟩
  exact loop 6 k 0 (-1) 0 0 0 s16 (by omega) (by omega) (Or.inr ⟨k0, k1, by omega⟩) e16 T16 u15 u16 (bestS_0 hG).symm rfl
def gcF : List (Nat × Int) := gvF
set_option maxRecDepth 8000 in
theorem t_candidates {Q : Int → jS → Prop} (hn : 5 ≤ n) (hm : mln σ) (hX : mTx σ T) (hO : rs σ 1015 0 = O) (hU : rs σ 1016 0 = U) (hY : pYm σ Y) (hi : i < 4) (k0 : 0 ≤ k) (k1 : k < tS T) (w0 : 0 ≤ w) (w3 : w ≤ 3)
    (hq : ∀ σ', sq gvF σ σ' → Q (caV T O U (Y i) k w) σ') : TrI n i_Model_candidates [jo 1 0, ji ((i : Nat) : Int), ji k, ji w] σ Q := by
  have p1 := hX.1
  have l46 := mln_at hm 1046 48 (by decide)
  have l47 := mln_at hm 1047 4 (by decide)
  obtain ⟨a1, a2, a3, a4, a5⟩ := hY i hi
  have hi12 := a1.2.2
  have hS := p1.2.1
  have hk5 := (p1.2.2.2.2.1 k k0 k1).2
  unfold caV at hq
  refine wp_Model_candidates ⟨by omega, t_isTold (by omega) (fun w => absurd (show 0 ≤ ((i : Nat) : Int) ∧ ((i : Nat) : Int) < 4 by omega) w) (fun _ => ?_)⟩
  rw [if_neg (by decide)]
  refine ⟨by omega, wp_Model_isScope ⟨by omega, ?_⟩⟩
  rw [hX.2.1]
  refine ⟨⟨by omega, by omega⟩, by omega, wp_Model_isIn ?_⟩
  rw [if_neg (by omega), if_neg (by omega)]
  refine ⟨Or.inr rfl, ?_⟩
  rw [if_neg (by decide)]
  refine wp_Model_isIn ?_
  rw [if_neg (by omega), if_neg (by omega), if_pos (by decide)]
  have hz0 : zu gz0 0 = 0 := rfl
  have u26 := unu_26 (fun _ => -1)
  refine t_beginHeap hm (fun s3 e3 T3 v34 => t_newUnknowns (hm.sq e3) (fun s5 f5 V5 => ?_))
  have e5 : sq [(1033, 0), (1034, 0), (1035, 0), (1036, 0)] σ s5 := (e3.mo (by decide)).tr (f5.mo (by decide))
  have T5 : mT s5 gz0 0 [] := T3.sq f5 (by decide)
  rw [e5.nrl 1046 0, e5.nrl 1047 0, l46, l47, e5.nra 1047 0 _ (by decide), a2]
  refine ⟨by omega, ⟨by omega, by omega⟩, by omega, by omega, by omega, t_layRow (r := Y i) (g := gz0) (N := 0) (β := []) (vs := fun _ => -1) (by omega) T5 V5 (fun v => Or.inl rfl) rfl rfl (by decide) (by omega) (by rw [e5.nrl 1046 0, l46]; omega) (fun k hk => by rw [e5.nra 1046 0 _ (by decide)]; exact a5 k hk) a1.2.1 a1.1 (by omega) (by rw [f5.nrs 1034 0 (by decide), v34]; omega) (by rw [hz0]; omega) (by omega) (by omega) (fun s12 hl1 => ?_)⟩
  obtain ⟨c1, c2, c3, c4, c5, c6, c7, c8⟩ := hl1
  have T12 : mT s12 (lA (Y i)).1 (lA (Y i)).2.1 [] := c1
  obtain ⟨o1, o2, o3, o4, o5⟩ := lA_ok a1
  have e12 : sq gvF σ s12 := (e5.mo (by decide)).tr (c3.mo (by decide))
  rw [f5.nrs 1034 0 (by decide), v34] at c7
  show J n c_Model_candidates (some .int) 69 [some (jo 1 0), none, none, some (ji w), some (ji (xA (Y i))), some (ji 0), some (ji (-1)), some (ji 0), some (ji 0), some (ji k), none] [] s12 (qI Q)
  have loop : ∀ (m : Nat) (s l f a b : Int) (s2 : jS), l + ((m : Nat) : Int) = 6 → 0 ≤ l → (s = -1 ∨ (0 ≤ s ∧ s < tS T ∧ tL T s < ((m : Nat) : Int))) → sq gvF σ s2 → mT s2 (lA (Y i)).1 (lA (Y i)).2.1 [] → rs s2 1034 0 = rs s12 1034 0 → i32 b → caR T O U (Y i) (chn T m s) l f a b = caR T O U (Y i) (chn T 6 k) 0 (-1) 0 0 → J n c_Model_candidates (some .int) 69 [some (jo 1 0), none, none, some (ji w), some (ji (xA (Y i))), some (ji l), some (ji f), some (ji a), some (ji b), some (ji s), none] [] s2 (qI Q) := by
    have fin : ∀ (l f a b : Int) (s2 : jS), sq gvF σ s2 → mTx s2 T → i32 b → (l, f, a, b) = caR T O U (Y i) (chn T 6 k) 0 (-1) 0 0 → (if ¬ w = 0 then (if ¬ w = 1 then (if ¬ w = 2 then 0 ≤ (0 : Int) ∧ 1 ≤ n ∧ TrI (n - 1) i_Model_bestOf [jo 1 0, ji b] s2 (fun zr4 zs3 => Q zr4 zs3) else Q a s2) else Q f s2) else Q l s2) := by
      intro l f a b s2 e2 X2 hb hR
      have hq1 := hq s2 e2
      rw [← hR] at hq1
      by_cases q0 : w = 0
      · rw [if_neg (fun h => h q0)]
        rw [if_pos q0] at hq1
        exact hq1
      rw [if_pos q0]
      rw [if_neg q0] at hq1
      by_cases q1 : w = 1
      · rw [if_neg (fun h => h q1)]
        rw [if_pos q1] at hq1
        exact hq1
      rw [if_pos q1]
      rw [if_neg q1] at hq1
      by_cases q2 : w = 2
      · rw [if_neg (fun h => h q2)]
        rw [if_pos q2] at hq1
        exact hq1
      rw [if_pos q2]
      rw [if_neg q2] at hq1
      refine ⟨by omega, by omega, t_bestOf (C := fun k => tb b k = true) (by omega) (hm.sq e2) X2 ⟨hb, fun _ _ _ => Iff.rfl⟩ (fun b' hb' => ?_)⟩
      rw [bsO_eq hb']
      exact hq1
    intro m
    induction m with
    | zero =>
      intro s l f a b s2 hl l0 hs e2 T2 v34' hb hR
      have qs : s = -1 := by
        rcases hs with w | ⟨w1, w2, w3⟩
        · exact w
        · have := (p1.2.2.2.2.1 s w1 w2).2
          omega
      have X2 : mTx s2 T := hX.sq e2 (by decide)
      refine wp_Model_candidates_69 ?_
      rw [if_pos qs]
      exact fin l f a b s2 e2 X2 hb hR
    | succ m ih =>
      intro s l f a b s2 hl l0 hs e2 T2 v34' hb hR
      have X2 : mTx s2 T := hX.sq e2 (by decide)
      refine wp_Model_candidates_69 ?_
      by_cases qs : s = -1
      · rw [if_pos qs]
        rw [qs, chn_m1] at hR
        exact fin l f a b s2 e2 X2 hb hR
      · rw [if_neg qs]
        obtain ⟨s0, s1, sl⟩ := hs.resolve_left qs
        rw [show chn T (m + 1) s = s :: chn T m (tA T s) from if_neg qs] at hR
        have hR : caR T O U (Y i) (chn T m (tA T s)) (l + 1) (if ¬ caS T O U (Y i) s = 0 ∧ f = -1 then l else f) (bOr a (caS T O U (Y i) s)) (if ¬ caS T O U (Y i) s = 0 ∧ f = -1 then caS T O U (Y i) s else b) = caR T O U (Y i) (chn T 6 k) 0 (-1) 0 0 := hR
        have har := tok_aro p1 s0 s1 sl
        refine ⟨by omega, by omega, t_cands (by omega) T2 X2 o1 (fun p hp => by cases hp) o2.1 o2.2 (by omega) (by omega) (by rw [v34']; omega) (by omega) s0 s1 (fun cs s4 T4 e4 hkp k34 hcs => ?_)⟩
        rw [e2.nrs 1015 0 (by decide), e2.nrs 1016 0 (by decide), hO, hU] at hcs
        have ecs : cs = caS T O U (Y i) s := bsO_eq hcs
        have e24 : sq gvF σ s4 := e2.tr e4
        have X4 : mTx s4 T := hX.sq e24 (by decide)
        have l08 := mln_at (hm.sq e24) 1008 8 (by decide)
        rw [← ecs] at hR
        by_cases qc : cs = 0
        · rw [if_pos qc, l08, X4.2.2.2.1 s s0 s1]
          rw [if_neg (fun h => h.1 qc), if_neg (fun h => h.1 qc)] at hR
          exact ⟨⟨by omega, by omega⟩, by omega, s0, by omega, ih (tA T s) (l + 1) f (bOr a cs) b s4 (by omega) (by omega) har e24 T4 (k34.trans v34') hb hR⟩
        · rw [if_neg qc]
          by_cases qf : f = -1
          · rw [if_neg (fun h => h qf), l08, X4.2.2.2.1 s s0 s1]
            rw [if_pos ⟨qc, qf⟩, if_pos ⟨qc, qf⟩] at hR
            exact ⟨⟨by omega, by omega⟩, by omega, s0, by omega, ih (tA T s) (l + 1) l (bOr a cs) cs s4 (by omega) (by omega) har e24 T4 (k34.trans v34') hcs.1 hR⟩
          · rw [if_pos qf, l08, X4.2.2.2.1 s s0 s1]
            rw [if_neg (fun h => qf h.2), if_neg (fun h => qf h.2)] at hR
            exact ⟨⟨by omega, by omega⟩, by omega, s0, by omega, ih (tA T s) (l + 1) f (bOr a cs) b s4 (by omega) (by omega) har e24 T4 (k34.trans v34') hb hR⟩
  exact loop 6 k 0 (-1) 0 0 s12 (by omega) (by omega) (Or.inr ⟨k0, k1, by omega⟩) e12 T12 rfl i32_0 rfl
end ZKa
