/-! The best ones are tried: steps. -/
section ZTc
variable {n : Nat} {σ σ1 : jS} {P : zP} {s s1 : zS} {path β new : List (Int × Int)} {x me f z8 : Int} {g' : zH} {N' : Int}
/-- the plan's top and a row of it may change -/
theorem cB_plan (h : cB σ P s path) (e : sq [(6000, 1), (6001, 1)] σ σ1) (h0 : 0 ≤ rs σ1 6000 1) (h1 : rs σ1 6000 1 ≤ rs σ 6000 1) : cB σ1 P s path := by
  have q := e.cq (l' := [(6000, 1), (6001, 1)]) (by decide)
  obtain ⟨c1, c2, c3, c4, c5, c6, c7, c8, c9, c10⟩ := h
  unfold cB tly
  rw [e.nrs 7015 0 (by decide), e.nrs 7016 0 (by decide), e.nrs 7014 0 (by decide), e.nrs 7018 0 (by decide), e.nraf 7002 0 (by decide), e.nraf 7010 0 (by decide), e.nraf 7011 0 (by decide), e.nrl 6001 1, e.nrs 9002 0 (by decide), e.nrl 9007 0]
  exact ⟨c1.cq q, c2.cq q (by decide), c3.cq q (by decide) (nofl (by decide)), c4, c5, c6, c7.cq q (by decide) (by decide), ⟨h0, by omega, by omega, c8.2.2.2⟩, c9, q.2.2.2.2 c10⟩
/-- back to fewer nodes, and to a shorter plan -/
theorem c_bkp {K : jS → Prop} (hn : 1 ≤ n) (h : cT σ g' N' (new ++ β)) (hag : agr (hG s) g' (hN s)) (hNN : hN s ≤ N') (hg : gok s) (hb : bok (hG s) (hN s) β) (hz : zu (hG s) (hN s) ≤ 20000) (hB : cB σ P s1 path) (h0 : 0 ≤ z8) (h1 : z8 ≤ rs σ 6000 1)
    (hk : ∀ σb, cT σb (hG s) (hN s) β → cq [(9000, 0), (9001, 0), (9005, 0), (6000, 1)] σ σb → cB σb P s1 path → rs σb 6000 1 = z8 → K σb) : TrV n i_Terms_back [jo 9 0, ji (β.length : Nat), ji (hN s)] σ (fun zs => 0 ≤ rs zs 7006 0 ∧ ∀ zs', zs' = ws zs 6000 (rs zs 7006 0) z8 → K zs') := by
  refine wp_Terms_back (c_back hn hg.2.1 new σ h (fun σ4 m1 m2 => ?_))
  have hmin : min N' (hN s) = hN s := by omega
  have hcT := cT_low m1 hag hNN hg.2.1 hg.1 hb hz hmin
  have f1 : sq [(9000, 0), (9001, 0), (9005, 0)] σ (ws σ4 9000 0 (min N' (hN s))) := (m2.mo (by decide)).pws 9000 0 _ (by decide)
  have q1 := f1.cq (l' := [(9000, 0), (9001, 0), (9005, 0)]) (by decide)
  have B1 := hB.cq q1 (by decide) (by decide) (by decide) (by decide)
  generalize hs : ws σ4 9000 0 (min N' (hN s)) = σ5 at hcT f1 q1 B1
  have t76 := cC_at B1.2.1 7006 0 1 (by decide)
  rw [t76]
  refine ⟨by omega, fun zs' e => ?_⟩
  have f2 : sq [(6000, 1)] σ5 zs' := by rw [e]; exact (sq.rf _ σ5).pws 6000 1 _ (by decide)
  have r1 : rs zs' 6000 1 = z8 := by rw [e, rs_ws, if_pos ⟨rfl, rfl⟩]
  refine hk zs' (hcT.sq f2 (by decide)) ((q1.mo (by decide)).tr (f2.cq (by decide))) (cB_plan B1 (f2.mo (by decide)) (by omega) (by rw [r1, f1.nrs 6000 1 (by decide)]; exact h1)) r1
/-- one more has failed -/
theorem c_fail {K : jS → Prop} (hB : cB σ P s1 path) (m0 : 0 ≤ me) (m1 : me < rs σ 6000 1) (hf : ra σ 6001 1 (me * 8 + 5) = f) (f0 : 0 ≤ f) (f1 : f < 1000)
    (hk : ∀ σb, sq [(6001, 1)] σ σb → ra σb 6001 1 = upI (ra σ 6001 1) (me * 8 + 5) (f + 1) → cB σb P s1 path → K σb) : 0 ≤ rs σ 7006 0 ∧ TrI n i_Nodes_get [jo 6 (rs σ 7006 0), ji me, ji 5] σ (fun zr44 zs43 => i32 (zr44 + 1) ∧ 0 ≤ rs σ 7006 0 ∧ TrV n i_Nodes_set [jo 6 (rs σ 7006 0), ji me, ji 5, ji (zr44 + 1)] zs43 (fun zs47 => K zs47)) := by
  have t76 := cC_at hB.2.1 7006 0 1 (by decide)
  obtain ⟨p0, p1, p2, p3⟩ := hB.2.2.2.2.2.2.2.1
  have hl2 : rl σ 6001 1 ≤ 200000 := by unfold gr3 at p3; omega
  rw [t76]
  refine ⟨by omega, c_nget (c := 5) (by omega) m0 m1 (by omega) p2 hl2 ?_⟩
  rw [show me * 8 + ((5 : Nat) : Int) = me * 8 + 5 by omega, hf]
  refine ⟨⟨by omega, by omega⟩, by omega, c_nset (c := 5) (by omega) m0 m1 (by omega) p2 hl2 ?_⟩
  have e : sq [(6001, 1)] σ (wa σ 6001 1 (me * 8 + ((5 : Nat) : Int)) (f + 1)) := (sq.rf _ σ).pwa 6001 1 _ _ (by decide)
  refine hk _ e ?_ (cB_plan hB (e.mo (by decide)) (by rw [e.nrs 6000 1 (by decide)]; exact p0) (by rw [e.nrs 6000 1 (by decide)]; exact Int.le_refl _))
  rw [show me * 8 + ((5 : Nat) : Int) = me * 8 + 5 by omega]
  unfold wa
  rw [raf_wA, if_pos ⟨rfl, rfl⟩]
end ZTc
