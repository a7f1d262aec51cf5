/-! The best ones are tried: the class, as a whole. -/
section ZTd
variable {n : Nat} {σ σ1 : jS} {P : zP} {s s0 s1 : zS} {path β new : List (Int × Int)} {x me f lvl cds unt : Int} {ask : Int → zS → Int → zS × zQ}
/-- what was written down may change -/
theorem cB_sav {l : List (Nat × Int)} (h : cB σ P s path) (e : cq l σ σ1) (hl : (cBF.all (fun p => !l.contains p || p.1 == 9002 || p.1 == 9007)) = true) (hc : (ccT.all (fun p => !l.contains p.1)) = true) (hx : (cTxF.all (fun p => !l.contains p)) = true) (hf : (l.all (fun p => decide (2 ≤ p.1))) = true) (hs : 0 ≤ rs σ1 9002 0 ∧ rs σ1 9002 0 ≤ rl σ1 9007 0 ∧ gr2 (rl σ1 9007 0)) : cB σ1 P s path := by
  have hm : ∀ p, p ∈ cBF → ¬ p.1 = 9002 → ¬ p.1 = 9007 → l.contains p = false := fun p hp h1 h2 => by
    have := List.all_eq_true.mp hl p hp
    have e1 : (p.1 == 9002) = false := by simpa using h1
    have e2 : (p.1 == 9007) = false := by simpa using h2
    rw [e1, e2] at this
    simpa using this
  obtain ⟨h1, h2, h3, h4, h5, h6, h7, h8, h9, h10⟩ := h
  unfold cB tly
  rw [e.nrs 7015 0 (by decide) (hm _ (by decide) (by decide) (by decide)), e.nrs 7016 0 (by decide) (hm _ (by decide) (by decide) (by decide)), e.nrs 7014 0 (by decide) (hm _ (by decide) (by decide) (by decide)), e.nrs 7018 0 (by decide) (hm _ (by decide) (by decide) (by decide)), e.nraf 7002 0 (by decide) (hm _ (by decide) (by decide) (by decide)), e.nraf 7010 0 (by decide) (hm _ (by decide) (by decide) (by decide)), e.nraf 7011 0 (by decide) (hm _ (by decide) (by decide) (by decide)), e.nrs 6000 1 (by decide) (hm _ (by decide) (by decide) (by decide)), e.nrl 6001 1 (by decide) (hm _ (by decide) (by decide) (by decide))]
  refine ⟨h1.cq e, h2.cq e hc, h3.cq e hx (nofl hf), h4, h5, h6, h7.cq e (List.all_eq_true.mpr (fun p hp => ?_)) hf, h8, hs, e.2.2.2.2 h10⟩
  have : p ∈ cBF ∧ ¬ p.1 = 9002 ∧ ¬ p.1 = 9007 := by
    have : ∀ p, p ∈ ([(5000, 0), (5001, 0), (5002, 0), (5004, 0), (5005, 0), (6000, 0), (6001, 0), (3001, 0), (3002, 0), (2000, 0)] : List (Nat × Int)) → p ∈ cBF ∧ ¬ p.1 = 9002 ∧ ¬ p.1 = 9007 := by decide
    exact this p hp
  rw [hm p this.1 this.2.1 this.2.2]; rfl
theorem expT_inl (M : zM) (z : zN) (t : List zI) : expT M (.inl z :: t) = z :: expT M t := by
  unfold expT
  rw [List.flatMap_cons]
  rfl
/-- the like, where Flats 242 to 244 may change -/
theorem memR_cq2 {l : List (Nat × Int)} {M : zM} (h : memR σ M) (e : cq l σ σ1) (hl : (([(5000, 0), (5001, 0), (5002, 0), (5004, 0), (5005, 0), (6000, 0), (6001, 0), (3001, 0), (3002, 0), (2000, 0)] : List (Nat × Int)).all (fun p => !l.contains p)) = true) (hf : ∀ o : Int, 251 ≤ o → ¬ (0, o) ∈ l ∧ ¬ (1, o) ∈ l) : memR σ1 M := by
  have hm : ∀ p, p ∈ ([(5000, 0), (5001, 0), (5002, 0), (5004, 0), (5005, 0), (6000, 0), (6001, 0), (3001, 0), (3002, 0), (2000, 0)] : List (Nat × Int)) → l.contains p = false := fun p hp => by
    have := List.all_eq_true.mp hl p hp
    simpa using this
  obtain ⟨h1, h2, h3, h4, h5, h6, h7, h8, h9, h10, h11⟩ := h
  have a61 := e.nraf 6001 0 (by decide) (hm _ (by decide))
  have a31 := e.nraf 3001 0 (by decide) (hm _ (by decide))
  have a32 := e.nrs 3002 0 (by decide) (hm _ (by decide))
  unfold memR
  rw [e.nrs 5000 0 (by decide) (hm _ (by decide)), e.nraf 5004 0 (by decide) (hm _ (by decide)), e.nraf 5001 0 (by decide) (hm _ (by decide)), e.nraf 5002 0 (by decide) (hm _ (by decide)), e.nraf 5005 0 (by decide) (hm _ (by decide)), e.2.1 0, e.nrs 6000 0 (by decide) (hm _ (by decide)), e.nrl 6001 0 (by decide) (hm _ (by decide)), a32, e.nrl 3001 0 (by decide) (hm _ (by decide))]
  refine ⟨h1, h2, fun j hj => ?_, h4, fun j j0 j1 j2 => ?_, h6, h7, h8, h9, h10, h11.1, h11.2.1, rkK_cg h11.2.2 (e.2.1 0) (e.nraf 5005 0 (by decide) (hm _ (by decide))) (e.nraf 2000 0 (by decide) (hm _ (by decide))) (fun o ho => (e.1 0 _ (by decide) (hf o ho).1).2.2)⟩
  · obtain ⟨c1, c2, c3, c4, c5, c6, c7, c8, c9, c10⟩ := h3 j hj
    obtain ⟨q1, q2⟩ := hf _ c4
    refine ⟨c1, c2, c3, c4, c5, ?_, c7, c8, c9, treeW_cong a61 a31 a32 c10.1, c10.2⟩
    unfold fT
    rw [(e.1 1 _ (by decide) q2).1, (e.1 0 _ (by decide) q1).2.2, show ra σ1 0 (ra σ 5005 0 j) = ra σ 0 (ra σ 5005 0 j) from funext (e.1 0 _ (by decide) q1).2.1]
    exact c6
  · obtain ⟨c1, c2, c3⟩ := h5 j j0 j1 j2
    rw [(e.1 0 _ (by decide) (hf _ c1).1).2.2]
    exact ⟨c1, c2, c3⟩
theorem cB_cq2 {l : List (Nat × Int)} (h : cB σ P s path) (e : cq l σ σ1) (hl : (cBF.all (fun p => !l.contains p)) = true) (hc : (ccT.all (fun p => !l.contains p.1)) = true) (hx : (cTxF.all (fun p => !l.contains p)) = true) (hf : ∀ o : Int, (2 ≤ o ∧ o < 242) ∨ 251 ≤ o → ¬ (0, o) ∈ l ∧ ¬ (1, o) ∈ l) : cB σ1 P s path := by
  have hm : ∀ p, p ∈ cBF → l.contains p = false := fun p hp => by
    have := List.all_eq_true.mp hl p hp
    simpa using this
  obtain ⟨h1, h2, h3, h4, h5, h6, h7, h8, h9, h10⟩ := h
  unfold cB tly
  rw [e.nrs 7015 0 (by decide) (hm _ (by decide)), e.nrs 7016 0 (by decide) (hm _ (by decide)), e.nrs 7014 0 (by decide) (hm _ (by decide)), e.nrs 7018 0 (by decide) (hm _ (by decide)), e.nraf 7002 0 (by decide) (hm _ (by decide)), e.nraf 7010 0 (by decide) (hm _ (by decide)), e.nraf 7011 0 (by decide) (hm _ (by decide)), e.nrs 6000 1 (by decide) (hm _ (by decide)), e.nrl 6001 1 (by decide) (hm _ (by decide)), e.nrs 9002 0 (by decide) (hm _ (by decide)), e.nrl 9007 0 (by decide) (hm _ (by decide))]
  refine ⟨h1.cq e, h2.cq e hc, h3.cq e hx (fun o o0 o1 => hf o (Or.inl ⟨o0, o1⟩)), h4, h5, h6, memR_cq2 h7 e (List.all_eq_true.mpr (fun p hp => ?_)) (fun o o0 => hf o (Or.inr o0)), h8, h9, e.2.2.2.2 h10⟩
  have : p ∈ cBF := by
    have : ∀ p, p ∈ ([(5000, 0), (5001, 0), (5002, 0), (5004, 0), (5005, 0), (6000, 0), (6001, 0), (3001, 0), (3002, 0), (2000, 0)] : List (Nat × Int)) → p ∈ cBF := by decide
    exact this p hp
  rw [hm p this]; rfl
theorem nofl3 {l : List (Nat × Int)} (h : (l.all (fun p => decide (2 ≤ p.1 ∨ (242 ≤ p.2 ∧ p.2 ≤ 244)))) = true) : ∀ o : Int, (2 ≤ o ∧ o < 242) ∨ 251 ≤ o → ¬ (0, o) ∈ l ∧ ¬ (1, o) ∈ l := fun o ho => by
  refine ⟨fun w => ?_, fun w => ?_⟩
  · have := of_decide_eq_true (List.all_eq_true.mp h _ w)
    dsimp only at this
    omega
  · have := of_decide_eq_true (List.all_eq_true.mp h _ w)
    dsimp only at this
    omega
def bInv (P : zP) (σ σ1 : jS) (s0 s : zS) (path β : List (Int × Int)) (x me f : Int) (one : Option (Int × List zI × List (Int × Int))) (another : Option Int) (z8 z9 z10 z11 : Int) : Prop :=
  aq σ σ1 ∧ cB σ1 P s path ∧ rs σ1 7017 0 = 0 ∧ cT σ1 (hG s) (hN s) β ∧ rep (hG s) (hN s) β (hE s) ∧ gok s ∧ bI s0 s one ∧ nOk s ∧ sA s0 ≤ sA s ∧ (∀ z : Int, z < 4 * ((path.length : Nat) : Int) → ra σ1 7012 0 z = ra σ 7012 0 z) ∧ (rs σ1 6000 1 = z8 ∧ rs σ 6000 1 ≤ z8 ∧ ∀ i, 0 ≤ i → i < rs σ 6000 1 * 8 → ¬ i = me * 8 + 0 → ¬ i = me * 8 + 5 → ra σ1 6001 1 i = ra σ 6001 1 i) ∧ ra σ1 6001 1 (me * 8 + 5) = f ∧ (∀ i, 0 ≤ i → i < rs σ 9002 0 → ra σ1 9007 0 i = ra σ 9007 0 i) ∧ oneI P σ σ1 s0 s β x me one z8 z9 z10 ∧ anoI one another z11 ∧ 0 ≤ f
/-- when all have been tried -/
theorem c_best_end {Q : Int → jS → Prop} {best z8 z9 z10 z11 : Int} {one : Option (Int × List zI × List (Int × Int))} {another : Option Int} {i : Nat} {R : zS × zQ × Int} (hn : 12 ≤ n) (x0 : 0 ≤ x) (x1 : x < hN s0) (hxl : (ex (hG s0) (hN s0) β x).length ≤ 100) (hg0 : gok s0) (hr0 : rep (hG s0) (hN s0) β (hE s0)) (m0 : 0 ≤ me) (m1 : me < rs σ 6000 1) (hS : 0 ≤ rs σ 9002 0)
    (hq : ∀ v σ', bPost P σ σ' s0 path β x me R → (v = match R.2.1.2.1 with
      | none => 0
      | some t => ((expT (sM R.1) t).length : Int)) → Q v σ') (hi : ((i : Nat) : Int) = tG P.1) (hRR : spBest P ask path x lvl cds unt [] s f one another = R) (hI : bInv P σ σ1 s0 s path β x me f one another z8 z9 z10 z11) : J n c_Search_tryBest (some .int) 48 [some (jo 7 0), some (ji best), some (ji x), some (ji (path.length : Nat)), some (ji me), some (ji (β.length : Nat)), some (ji (rs σ 9002 0)), some (ji (hN s)), some (ji z8), some (ji z9), some (ji z10), some (ji z11), some (ji (i : Nat)), none] [] σ1 (qI Q) := by
  obtain ⟨a1, a2, a3, a4, a5, a6, a7, a8, a9, a10, ⟨a11, a12, a13⟩, a14, a15, a16, a17, a18⟩ := hI
  obtain ⟨j1, j2, j3, j4, j5⟩ := a7
  obtain ⟨-, tx, h2, h3, h4, h5, h6, h7, h8, h9⟩ := a2.2.2.1
  have t70 := cC_at a2.2.1 7000 0 0 (by decide)
  have hsav := a2.2.2.2.2.2.2.2.2.1
  have hrl : rl σ1 9007 0 ≤ 65536 := by have := hsav.2.2; unfold gr2 at this; omega
  refine wp_Search_tryBest_48 ⟨by omega, by omega, ?_⟩
  rw [h3, if_pos (by omega)]
  -- given what is put again, GIVEN is told
  have last : ∀ (σ2 : jS) (g2 : List (Int × Int)), cT σ2 (hG s) (hN s) (g2 ++ β) → cq [(9001, 0), (9002, 0), (9005, 0), (9006, 0)] σ1 σ2 → rs σ2 9002 0 = rs σ 9002 0 → (∀ σ3, cT σ3 (hG s) (hN s) (g2 ++ β) → aq σ σ3 → cB σ3 P s path → rs σ3 7017 0 = 0 → (rs σ3 9002 0 = rs σ 9002 0 ∧ ∀ i, 0 ≤ i → i < rs σ 9002 0 → ra σ3 9007 0 i = ra σ 9007 0 i) → (∀ z : Int, z < 4 * ((path.length : Nat) : Int) → ra σ3 7012 0 z = ra σ 7012 0 z) → (rs σ3 6000 1 = z8 ∧ ra σ3 6001 1 = upI (ra σ1 6001 1) (me * 8 + 0) z10) → Q z9 σ3) → 0 ≤ rs σ2 7006 0 ∧ TrV (n - 1) i_Nodes_set [jo 6 (rs σ2 7006 0), ji me, ji 0, ji z10] σ2 (fun zs8 => Q z9 zs8) := by
    intro σ2 g2 c1 c2 c3 hk
    have B2 : cB σ2 P s path := cB_sav a2 c2 (by decide) (by decide) (by decide) (by decide) (by rw [c3, c2.nrl 9007 0 (by decide) (by decide)]; have := hsav; exact ⟨hS, by
      cases one with
      | none => have := a16.2.2.1; omega
      | some o => obtain ⟨-, -, -, -, ⟨nw, w1, -⟩, -⟩ := a16; omega, this.2.2⟩)
    have t76 := cC_at B2.2.1 7006 0 1 (by decide)
    obtain ⟨p0, p1, p2, p3⟩ := B2.2.2.2.2.2.2.2.1
    rw [t76]
    have e60 : rs σ2 6000 1 = z8 := by rw [c2.nrs 6000 1 (by decide) (by decide)]; exact a11
    refine ⟨by omega, c_nset (c := 0) (by omega) m0 (by omega) (by omega) p2 (by unfold gr3 at p3; omega) ?_⟩
    have e : sq [(6001, 1)] σ2 (wa σ2 6001 1 (me * 8 + ((0 : Nat) : Int)) z10) := (sq.rf _ σ2).pwa 6001 1 _ _ (by decide)
    have eq3 := e.cq (l' := [(6001, 1)]) (by decide)
    refine hk _ (c1.sq e (by decide)) ((a1.tr (c2.aq (fun p hp => ?_))).tr (eq3.aq (fun p hp => ?_))) (cB_plan B2 (e.mo (by decide)) (by rw [e.nrs 6000 1 (by decide)]; exact p0) (by rw [e.nrs 6000 1 (by decide)]; exact Int.le_refl _)) ?_ ⟨?_, fun z z0 z1 => ?_⟩ (fun z hz => ?_) ⟨?_, ?_⟩
    · simp at hp
      rcases hp with w | w | w | w <;> rw [w] <;> unfold askFp <;> simp
    · simp at hp
      rw [hp]; unfold askFp; simp
    · rw [e.nrs 7017 0 (by decide), c2.nrs 7017 0 (by decide) (by decide)]; exact a3
    · rw [e.nrs 9002 0 (by decide)]; exact c3
    · rw [e.nra 9007 0 z (by decide), c2.nraf 9007 0 (by decide) (by decide)]; exact a15 z z0 z1
    · rw [e.nra 7012 0 z (by decide), c2.nraf 7012 0 (by decide) (by decide)]; exact a10 z hz
    · rw [e.nrs 6000 1 (by decide)]; exact e60
    · unfold wa
      rw [raf_wA, if_pos ⟨rfl, rfl⟩, c2.nraf 6001 1 (by decide) (by decide)]
      rfl
  cases another with
  | none =>
    have e11 : z11 = -1 := a17
    rw [if_pos e11, t70]
    cases one with
    | none =>
      obtain ⟨o1, o2, o3, o4⟩ := a16
      obtain ⟨k1, k2⟩ := j5
      have hRe : R = (s, (0, none, noQ), f) := hRR.symm
      refine ⟨by omega, by omega, c_putAgain (new := []) (by omega) a4 a4.1.2.2.1 hS (by rw [o3]; simp) hsav.2.1 hrl (fun j hj => absurd hj (Nat.not_lt_zero j)) (fun σ2 c1 c2 c3 => last σ2 [] c1 c2 c3 (fun σ3 d1 d2 d3 d4 d5 d6 d7 => ?_))⟩
      refine hq z9 σ3 ?_ (by rw [hRe]; exact o2)
      rw [hRe]
      refine ⟨d2, d3, d4, fun _ => d5, d6, ⟨by omega, fun z z0 z1 z2 z3 => ?_⟩, fun _ => ?_, ⟨[], hG s, hN s, d1, j3, j2, fun _ _ => ⟨rfl, k1, k2, by omega⟩, fun t ht => (by cases ht)⟩, fun w => absurd w (by show ¬ (0 : Int) = 2; decide)⟩
      · rw [d7.2]
        unfold upI
        rw [if_neg z2]
        exact a13 z z0 z1 z2 z3
      · rw [d7.2]
        unfold upI
        rw [if_neg (by omega)]
        exact a14
    | some o =>
      obtain ⟨o1, o2, o3, o4, ⟨nw, o5, o6, o7, o8⟩, o9, o10, o11, o12⟩ := a16
      have hRe : R = (((hG s, hN s, o.2.2), s.2), (0, some (.inl (o.1, lvl, cds, f, unt, tN P.1 o.1, x, none) :: o.2.1), noQ), f) := hRR.symm
      refine ⟨by omega, by omega, c_putAgain (new := nw) (by omega) a4 o7.1 hS o5 hsav.2.1 hrl o6 (fun σ2 c1 c2 c3 => last σ2 nw c1 c2 c3 (fun σ3 d1 d2 d3 d4 d5 d6 d7 => ?_))⟩
      refine hq z9 σ3 ?_ (by
        rw [hRe]
        show z9 = ((expT (sM s) (.inl (o.1, lvl, cds, f, unt, tN P.1 o.1, x, none) :: o.2.1)).length : Int)
        rw [o3, expT_inl, List.length_cons]
        omega)
      rw [hRe]
      refine ⟨d2, d3, d4, fun _ => d5, d6, ⟨by omega, fun z z0 z1 z2 z3 => ?_⟩, fun _ => ?_, ⟨nw, hG s, hN s, d1, j3, j2, fun _ w => (by cases w), fun t ht => ?_⟩, fun w => absurd w (by show ¬ (0 : Int) = 2; decide)⟩
      · rw [d7.2]
        unfold upI
        rw [if_neg z2]
        exact a13 z z0 z1 z2 z3
      · rw [d7.2]
        unfold upI
        rw [if_neg (by omega)]
        exact a14
      · have et : (.inl (o.1, lvl, cds, f, unt, tN P.1 o.1, x, none) :: o.2.1 : List zI) = t := by
          have : some (.inl (o.1, lvl, cds, f, unt, tN P.1 o.1, x, none) :: o.2.1 : List zI) = some t := ht
          cases this; rfl
        refine ⟨rfl, rfl, o7, o8, _, _, et.symm, ?_, planS_cong (fun z z0 z1 => ?_) o9, by rw [d7.1]; exact o10, o11, o12, ?_⟩
        · rw [d7.2]
          unfold upI
          rw [if_pos rfl]
          exact o1
        · rw [d7.2]
          unfold upI
          rw [if_neg (by omega)]
        · show (expT (sM s) o.2.1).length + 1 ≤ 200
          omega
  | some b =>
    obtain ⟨e11, b0, o, ho⟩ := a17
    subst ho
    have hRe : R = (s, (2, none, (o.1, b, rowE (hG s) (hN s) (hE s) x)), f) := hRR.symm
    have ez10 : z10 = o.1 := a16.1
    have hxl2 : (rowE (hG s) (hN s) (hE s) x).length ≤ 100 := by
      rw [rowE_eq j1 a5 x0 (by omega), cno_len, ex_ext j3 j2 hg0.1 j1 hr0.1 hr0.2.1 x x0 x1]
      exact hxl
    rw [if_neg (by omega)]
    refine ⟨by omega, c_tellBoth (by omega) a4 a5 a2.2.1 x0 (by omega) hxl2 (fun σ2 c1 c2 c3 c4 c5 => ?_)⟩
    refine hq 0 σ2 ?_ (by rw [hRe])
    rw [hRe]
    have q2 := c1.cq (l' := [(7017, 0), (7004, 0), (7005, 0), (0, 242), (1, 242), (9008, 0), (9011, 0), (9012, 0), (9014, 0)]) (by decide)
    refine ⟨a1.tr (q2.aq (fun p hp => ?_)), ?_, c2, fun w => absurd w (by show ¬ (2 : Int) = 0; decide), fun z hz => by rw [c1.nra 7012 0 z (by decide)]; exact a10 z hz, ⟨by rw [c1.nrs 6000 1 (by decide)]; omega, fun z z0 z1 z2 z3 => by rw [c1.nra 6001 1 z (by decide)]; exact a13 z z0 z1 z2 z3⟩, fun w => absurd w (by show ¬ (2 : Int) = 0; decide), ⟨[], hG s, hN s, a4.sq c1 (by decide), j3, j2, fun w => absurd w (by show ¬ (2 : Int) = 0; decide), fun t ht => (by cases ht)⟩, fun _ => ⟨by rw [c3]; exact ez10, by rw [c4]; exact e11, c5⟩⟩
    · simp at hp
      rcases hp with w | w | w | w | w | w | w | w | w <;> rw [w] <;> unfold askFp <;> simp
    · exact cB_cq2 a2 q2 (by decide) (by decide) (by decide) (nofl3 (by decide))
end ZTd
