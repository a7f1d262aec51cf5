/-! How many values: the reference, the count as a whole. -/
def vIn (T : zT) (σ σ3 : jS) (l : Nat) (g : zH) (N : Int) (β : List (Int × Int)) (p : Int) (k : Nat) (new : List (Int × Int)) (pp x s : Int) : Prop := vq9 l N σ σ3 ∧ mT σ3 (layGv T k g N).1 (layGv T k g N).2.1 (new ++ β) ∧ rs σ3 1034 0 = pp ∧ vMk σ3 l g N β p ∧ ra σ3 1136 0 ((l : Nat) : Int) = ((k : Nat) : Int) ∧ ra σ3 1135 0 ((l : Nat) : Int) = x ∧ ra σ3 1143 0 ((l : Nat) : Int) = s ∧ ∀ q : Nat, q < (tN T k).toNat → ra σ3 1138 0 (4 * ((l : Nat) : Int) + ((q : Nat) : Int)) = (layGv T k g N).2.2.2.getD q 0
section ZVk
variable {n l d : Nat} {σ σ1 σ2 σ3 σ4 : jS} {g g' : zH} {N N' may x p pp s s0 : Int} {β new β' : List (Int × Int)} {T : zT} {r L : List Int} {k : Nat}
theorem vMk.up {N2 : Int} (h : vMk σ3 l g N β p) (v : vq9 (l + 1) N2 σ3 σ4) (hN : N ≤ N2) : vMk σ4 l g N β p := by
  obtain ⟨y1, y2, y3, y4⟩ := h
  refine ⟨?_, ?_, ?_, y4.k (fun m m0 m1 => v.2.2.2 m m0 (by omega))⟩
  · rw [v.2.1 1139 (by decide) _ (by omega)]; exact y1
  · rw [v.2.1 1140 (by decide) _ (by omega)]; exact y2
  · rw [v.2.1 1141 (by decide) _ (by omega)]; exact y3
theorem vIn.up {N2 : Int} (h : vIn T σ σ3 l g N β p k new pp x s) (v : vq9 (l + 1) N2 σ3 σ4) (hN : N ≤ N2) (hm : mT σ4 (layGv T k g N).1 (layGv T k g N).2.1 (new ++ β)) (hp : rs σ4 1034 0 = pp) (hN4 : tN T k ≤ 4) : vIn T σ σ4 l g N β p k new pp x s := by
  obtain ⟨h1, h2, h3, h4, h5, h6, h7, h8⟩ := h
  refine ⟨h1.tr (v.up (by omega) hN), hm, hp, h4.up v hN, ?_, ?_, ?_, fun q hq => ?_⟩
  · rw [v.2.1 1136 (by decide) _ (by omega)]; exact h5
  · rw [v.2.1 1135 (by decide) _ (by omega)]; exact h6
  · rw [v.2.1 1143 (by decide) _ (by omega)]; exact h7
  · rw [v.2.2.1 _ (by omega)]; exact h8 q hq
theorem vIn.w {F : Nat} {v : Int} (h : vIn T σ σ3 l g N β p k new pp x s) (hF : F = 1142 ∨ F = 1137) : vIn T σ (wa σ3 F 0 ((l : Nat) : Int) v) l g N β p k new pp x s := by
  obtain ⟨h1, h2, h3, h4, h5, h6, h7, h8⟩ := h
  obtain ⟨y1, y2, y3, y4⟩ := h4
  have e : sq [(1137, 0), (1142, 0)] σ3 (wa σ3 F 0 ((l : Nat) : Int) v) := by
    rcases hF with w | w
    · rw [w]; exact (sq.rf _ σ3).pwa 1142 0 _ _ (by decide)
    · rw [w]; exact (sq.rf _ σ3).pwa 1137 0 _ _ (by decide)
  refine ⟨?_, h2.sq e (by decide), ?_, ⟨?_, ?_, ?_, y4.k (kpp.of e (by decide))⟩, ?_, ?_, ?_, fun q hq => ?_⟩
  · rcases hF with w | w
    · rw [w]; exact h1.w (by decide) (Int.le_refl _)
    · rw [w]; exact h1.w (by decide) (Int.le_refl _)
  · rw [e.nrs 1034 0 (by decide)]; exact h3
  · rw [e.nra 1139 0 _ (by decide)]; exact y1
  · rw [e.nra 1140 0 _ (by decide)]; exact y2
  · rw [e.nra 1141 0 _ (by decide)]; exact y3
  · rw [e.nra 1136 0 _ (by decide)]; exact h5
  · rw [e.nra 1135 0 _ (by decide)]; exact h6
  · rw [e.nra 1143 0 _ (by decide)]; exact h7
  · rw [e.nra 1138 0 _ (by decide)]; exact h8 q hq
theorem t_vlev1 {Q : Int → jS → Prop} (hn : 9 ≤ n) (hvar : vNo T may) {e : Nat} (hld : l + e = d) (hd : d ≤ 3) (hc : ∀ e', e = e' + 1 → vLvC T n Q may d e' (l + 1)) : vLvC T n Q may d e l := by
  intro σ g N β x L r p hX hm hp hv hL hN p0 hp1 hzu h35 h36 h43 hK
  rw [vl_eq] at hK
  have hT := hX.1
  have hG := hT.2.2.2.1
  have hG0 := hT.2.2.1
  have hf : ∀ f', vf T may e = some f' → ∀ r, 0 ≤ f' r := fun f' h => vf_0 h
  have hcb := fun k => vCt_b (T := T) (may := may) (f := vf T may e) (r := r) hf k
  obtain ⟨hz, hbk, ha, hN0, ⟨x0, x1⟩, hxr, hcl, -⟩ := id hv
  have loop : ∀ (j k : Nat) (σ1 : jS), (tG T).toNat - k < j → k ≤ (tG T).toNat → vq9 l N σ σ1 → vRd σ1 l g N β p k → ra σ1 1135 0 ((l : Nat) : Int) = x → ra σ1 1143 0 ((l : Nat) : Int) = vSm (vCt T may (vf T may e) r) k → J n c_Model_valuesOf (some .int) 9 [some (jo 1 0), none, some (ji may), some (ji (d : Nat)), some (ji (l : Nat)), none] [] σ1 (qI Q) := by
    intro j
    induction j with
    | zero => intro k σ1 h; exact absurd h (Nat.not_lt_zero _)
    | succ j ih =>
      intro k σ1 hj hk e1 hR a35 a43
      have hb := vSm_b (fun k => (hcb k).1) (c := vCt T may (vf T may e) r) k
      have hml : mln σ1 := by
        rcases hR with w | ⟨_, _, _, _, _, _, w, _⟩
        · exact w.2.2.1.1
        · exact w.1
      refine wp_Model_valuesOf_9 ?_
      rw [if_neg (by omega)]
      refine ⟨by omega, by omega, t_next (σ := σ1) (f := vf T may e) (s0 := vSm (vCt T may (vf T may e) r) k) (by omega) (hX.sq e1.1 (by decide)) hv (by omega) (by omega) a35 (by omega) p0 (by omega) (by omega) hvar hf hk hR rfl (fun σ2 b1 b2 b3 b4 b5 => ?_) (fun σ2 k2 new b0 b1 b2 b3 b4 b5 b6 b7 b8 b9 b10 b11 => ?_)⟩
      · rw [if_neg (fun w => w rfl)]
        refine hK σ2 (e1.tr b1) b2 b3 ?_
        rw [b4 1143 (by decide), a43]
        exact b5.symm
      · rw [if_pos (by decide)]
        have k20 : 0 ≤ ((k2 : Nat) : Int) := by omega
        obtain ⟨l1, l2, l3, l4, l5, ⟨l6, l6b⟩, l7, l8⟩ := lgv_ok hT k20 b1 hz hN0
        have hN4 := (hT.2.2.2.2.2 k2 k20 b1)
        have x2 : mTx σ2 T := hX.sq (e1.1.tr b2.1) (by decide)
        have l10 := mln_at b3.1 1010 24 (by decide)
        have l36 := mln_at b3.1 1136 4 (by decide)
        have l37 := mln_at b3.1 1137 4 (by decide)
        have l42 := mln_at b3.1 1142 4 (by decide)
        have l43 := mln_at b3.1 1143 4 (by decide)
        have e10 := (x2.2.2.2.2.1 k2 k20 b1).2.1
        have a35b : ra σ2 1135 0 ((l : Nat) : Int) = x := by rw [b6 1135 (by decide)]; exact a35
        have a43b : ra σ2 1143 0 ((l : Nat) : Int) = vSm (vCt T may (vf T may e) r) k := by rw [b6 1143 (by decide)]; exact a43
        have hy := vCt_yes (T := T) (may := may) (f := vf T may e) (r := r) b9
        have sk : vSm (vCt T may (vf T may e) r) (k2 + 1) = min (vSm (vCt T may (vf T may e) r) k + vCt T may (vf T may e) r k2) 1000000 := by rw [← b11]; rfl
        have hck := hcb k2
        rw [b7, e10]
        refine ⟨by omega, by omega, by omega, by omega, by omega, by omega, ?_⟩
        by_cases qt : tN T k2 = 0
        · rw [if_neg (fun w => w qt), a43b]
          rw [if_pos qt] at hy
          refine ⟨by omega, by omega, ⟨by omega, by omega⟩, t_least (w := vSm (vCt T may (vf T may e) r) (k2 + 1)) (by rw [sk, hy]) ⟨⟨by omega, by omega⟩, by omega, fun s33 e33 => ?_⟩⟩
          have f33 : sq [(1143, 0)] σ2 s33 := by rw [e33]; exact (sq.rf _ σ2).pwa 1143 0 _ _ (by decide)
          refine ih (k2 + 1) s33 (by omega) (by omega) (by rw [e33]; exact (e1.tr b2).w (by decide) (Int.le_refl _)) (Or.inr ⟨k2, _, _, new, rfl, ?_, b3.sq f33 (by decide), l3, l1, ?_⟩) (by rw [f33.nra 1135 0 _ (by decide)]; exact a35b) (by rw [e33, wav9])
          · rw [f33.nra 1136 0 _ (by decide)]; exact b7
          · obtain ⟨y1, y2, y3, y4⟩ := b4
            refine ⟨?_, ?_, ?_, y4.k (kpp.of f33 (by decide))⟩
            · rw [f33.nra 1139 0 _ (by decide)]; exact y1
            · rw [f33.nra 1140 0 _ (by decide)]; exact y2
            · rw [f33.nra 1141 0 _ (by decide)]; exact y3
        · rw [if_pos qt]
          rw [if_neg qt] at hy
          by_cases qd : ((d : Nat) : Int) ≤ ((l : Nat) : Int)
          · rw [if_pos qd]
            have e0 : e = 0 := by omega
            subst e0
            have hy0 : vCt T may (vf T may 0) r k2 = 0 := hy
            refine ih (k2 + 1) σ2 (by omega) (by omega) (e1.tr b2) (Or.inr ⟨k2, _, _, new, rfl, b7, b3, l3, l1, b4⟩) a35b ?_
            rw [a43b, sk, hy0]
            omega
          · rw [if_neg qd]
            obtain ⟨e', he'⟩ : ∃ e', e = e' + 1 := ⟨e - 1, by omega⟩
            subst he'
            obtain ⟨v1, v2⟩ := vth_ok b9.2
            have hy1 : vCt T may (vf T may (e' + 1)) r k2 = vPr (vl T may e') T k2 (vth T k2 r) (tN T k2).toNat := hy
            have fF : ∀ r, 0 ≤ vl T may e' r := fun r => (vl_b e' r).1
            have I2 : vIn T σ σ2 l g N β p k2 new (rs σ2 1034 0) x (vSm (vCt T may (vf T may (e' + 1)) r) k) := ⟨e1.tr b2, b3, rfl, b4, b7, a35b, a43b, b8⟩
            -- the given one is done
            have fin : ∀ (σ3 : jS) (pr : Int), vIn T σ σ3 l g N β p k2 new (rs σ2 1034 0) x (vSm (vCt T may (vf T may (e' + 1)) r) k) → ra σ3 1142 0 ((l : Nat) : Int) = pr → pr = vPr (vl T may e') T k2 (vth T k2 r) (tN T k2).toNat → J (n - 1) c_Model_upWith (some .int) 84 [some (jo 1 0), some (ji (l : Nat)), none, none] [] σ3 (qI (fun zr42 zs41 => J n c_Model_valuesOf (some .int) 9 [some (jo 1 0), none, some (ji may), some (ji (d : Nat)), some (ji zr42), none] [] zs41 (qI Q))) := by
              intro σ3 pr I3 h42 hpr
              obtain ⟨i1, i2, i3, i4, i5, i6, i7, i8⟩ := I3
              have l42 := mln_at i2.1 1142 4 (by decide)
              have l43 := mln_at i2.1 1143 4 (by decide)
              refine wp_Model_upWith_84 ⟨by omega, by omega, by omega, by omega, by omega, by omega, ?_⟩
              rw [i7, h42]
              refine ⟨⟨by omega, by omega⟩, by omega, t_least (w := vSm (vCt T may (vf T may (e' + 1)) r) (k2 + 1)) (by rw [sk, hy1, hpr]) ⟨⟨by omega, by omega⟩, by omega, fun s11 e11 => ?_⟩⟩
              have f11 : sq [(1143, 0)] σ3 s11 := by rw [e11]; exact (sq.rf _ σ3).pwa 1143 0 _ _ (by decide)
              refine ih (k2 + 1) s11 (by omega) (by omega) (by rw [e11]; exact i1.w (by decide) (Int.le_refl _)) (Or.inr ⟨k2, _, _, new, rfl, ?_, i2.sq f11 (by decide), l3, l1, ?_⟩) (by rw [f11.nra 1135 0 _ (by decide)]; exact i6) (by rw [e11, wav9])
              · rw [f11.nra 1136 0 _ (by decide)]; exact i5
              · obtain ⟨y1, y2, y3, y4⟩ := i4
                refine ⟨?_, ?_, ?_, y4.k (kpp.of f11 (by decide))⟩
                · rw [f11.nra 1139 0 _ (by decide)]; exact y1
                · rw [f11.nra 1140 0 _ (by decide)]; exact y2
                · rw [f11.nra 1141 0 _ (by decide)]; exact y3
            -- its NEEDS, one behind another
            have nd : ∀ (j2 i : Nat) (σ3 : jS), i + j2 = (tN T k2).toNat → 0 < j2 → vIn T σ σ3 l g N β p k2 new (rs σ2 1034 0) x (vSm (vCt T may (vf T may (e' + 1)) r) k) → ra σ3 1142 0 ((l : Nat) : Int) = vPr (vl T may e') T k2 (vth T k2 r) i → ra σ3 1137 0 ((l : Nat) : Int) = ((i : Nat) : Int) → ra σ3 1135 0 ((l + 1 : Nat) : Int) = (layGv T k2 g N).2.2.2.getD i 0 → ra σ3 1136 0 ((l + 1 : Nat) : Int) = -1 → ra σ3 1143 0 ((l + 1 : Nat) : Int) = 0 → J n c_Model_valuesOf (some .int) 9 [some (jo 1 0), none, some (ji may), some (ji (d : Nat)), some (ji ((l + 1 : Nat) : Int)), none] [] σ3 (qI Q) := by
              intro j2
              induction j2 with
              | zero => intro i σ3 _ h; exact absurd h (Nat.lt_irrefl 0)
              | succ j2 ihn =>
                intro i σ3 hi _ I3 h42 h37 g35 g36 g43
                have I3' := I3
                obtain ⟨i1, i2, i3, i4, i5, i6, i7, i8⟩ := I3'
                obtain ⟨L', w1, w2, w3⟩ := b10 _ v1 v2 i (by omega)
                refine hc e' rfl σ3 _ _ _ _ L' _ (rs σ2 1034 0) (hX.sq i1.1 (by decide)) i2 i3 w2 (by omega) (by omega) ?_ (by omega) (by omega) g35 g36 g43 (fun σ4 c1 c2 c3 c4 => ?_)
                · have := b3.2.2.2.2.2.2.2.2.1.1
                  exact this
                · have I4 := I3.up c1 l1 c2 c3 (by omega)
                  have h42b : ra σ4 1142 0 ((l : Nat) : Int) = vPr (vl T may e') T k2 (vth T k2 r) i := by rw [c1.2.1 1142 (by decide) _ (by omega)]; exact h42
                  have h37b : ra σ4 1137 0 ((l : Nat) : Int) = ((i : Nat) : Int) := by rw [c1.2.1 1137 (by decide) _ (by omega)]; exact h37
                  have l37 := mln_at c2.1 1137 4 (by decide)
                  have l42 := mln_at c2.1 1142 4 (by decide)
                  have l43 := mln_at c2.1 1143 4 (by decide)
                  have hpb := vPr_b (T := T) (k := k2) (θ := vth T k2 r) (f := vl T may e') fF i
                  have hpb2 := vPr_b (T := T) (k := k2) (θ := vth T k2 r) (f := vl T may e') fF (i + 1)
                  have hvb := vl_b (T := T) (may := may) e' (sbt (vth T k2 r) (tR T k2 (i + 1)))
                  have hmm := mul_6 hpb.1 hpb.2 hvb.1 hvb.2
                  unfold vUp
                  rw [show ((l + 1 : Nat) : Int) + (-1) = ((l : Nat) : Int) by omega, if_pos (by omega), show ((l : Nat) : Int) + 1 = ((l + 1 : Nat) : Int) by omega, c4]
                  refine ⟨⟨by omega, by omega⟩, by omega, ⟨by omega, by omega⟩, by omega, by omega, ?_⟩
                  refine wp_Model_upWith ⟨by omega, by omega, by omega, by omega, ?_⟩
                  rw [h42b]
                  refine ⟨⟨by omega, by omega⟩, by omega, t_least (w := vPr (vl T may e') T k2 (vth T k2 r) (i + 1)) rfl ⟨⟨by omega, by omega⟩, by omega, fun s9 e9 => ?_⟩⟩
                  have I9 : vIn T σ s9 l g N β p k2 new (rs σ2 1034 0) x (vSm (vCt T may (vf T may (e' + 1)) r) k) := by rw [e9]; exact I4.w (Or.inl rfl)
                  have l37b := mln_at I9.2.1.1 1137 4 (by decide)
                  have h37c : ra s9 1137 0 ((l : Nat) : Int) = ((i : Nat) : Int) := by rw [e9, wan9 (Or.inl (by decide))]; exact h37b
                  rw [h37c]
                  refine ⟨by omega, by omega, ⟨by omega, by omega⟩, fun s15 e15 => ?_⟩
                  have I15 : vIn T σ s15 l g N β p k2 new (rs σ2 1034 0) x (vSm (vCt T may (vf T may (e' + 1)) r) k) := by rw [e15]; exact I9.w (Or.inr rfl)
                  have h42d : ra s15 1142 0 ((l : Nat) : Int) = vPr (vl T may e') T k2 (vth T k2 r) (i + 1) := by rw [e15, wan9 (Or.inl (by decide)), e9, wav9]
                  have h37d : ra s15 1137 0 ((l : Nat) : Int) = ((i + 1 : Nat) : Int) := by rw [e15, wav9]; omega
                  clear e9 e15
                  obtain ⟨t1, t2, t3, t4, t5, t6, t7, t8⟩ := id I15
                  have z10 := mln_at t2.1 1010 24 (by decide)
                  have z36 := mln_at t2.1 1136 4 (by decide)
                  have z37 := mln_at t2.1 1137 4 (by decide)
                  have z38 := mln_at t2.1 1138 16 (by decide)
                  have z42 := mln_at t2.1 1142 4 (by decide)
                  have x15 : mTx s15 T := hX.sq t1.1 (by decide)
                  have e10b := (x15.2.2.2.2.1 k2 k20 b1).2.1
                  rw [h42d]
                  refine ⟨by omega, by omega, ?_⟩
                  by_cases q0 : vPr (vl T may e') T k2 (vth T k2 r) (i + 1) = 0
                  · rw [if_pos (by rw [q0]; decide)]
                    refine fin s15 _ I15 h42d ?_
                    have := vPr_0 q0 j2
                    rw [show i + 1 + j2 = (tN T k2).toNat by omega] at this
                    rw [this]
                    exact q0
                  · rw [if_neg (by unfold lcm3; rw [if_neg (by omega), if_neg q0]; decide), t5, e10b, h37d]
                    refine ⟨by omega, by omega, by omega, by omega, by omega, by omega, by omega, ?_⟩
                    by_cases q1 : tN T k2 ≤ ((i + 1 : Nat) : Int)
                    · rw [if_pos q1]
                      refine fin s15 _ I15 h42d ?_
                      rw [show (tN T k2).toNat = i + 1 by omega]
                    · rw [if_neg q1, t8 (i + 1) (by omega), show ((l : Nat) : Int) + 1 = ((l + 1 : Nat) : Int) by omega]
                      refine ⟨⟨by omega, by omega⟩, by omega, ⟨by omega, by omega⟩, ⟨by omega, by omega⟩, by omega, by omega, ?_⟩
                      refine t_openValue (N := N) t2.1 (by omega) (fun σ5 y1 y2 y3 y4 y5 => ?_)
                      refine ihn (i + 1) σ5 (by omega) (by omega) (I15.up y1 (Int.le_refl _) (t2.sq y2 (by decide)) (by rw [y2.nrs 1034 0 (by decide)]; exact t3) (by omega)) ?_ ?_ y3 y4 y5
                      · rw [y1.2.1 1142 (by decide) _ (by omega)]; exact h42d
                      · rw [y1.2.1 1137 (by decide) _ (by omega)]; exact h37d
            refine ⟨by omega, by omega, fun s16 e16 => ?_⟩
            have I16 : vIn T σ s16 l g N β p k2 new (rs σ2 1034 0) x (vSm (vCt T may (vf T may (e' + 1)) r) k) := by rw [e16]; exact I2.w (Or.inl rfl)
            have l37b := mln_at I16.2.1.1 1137 4 (by decide)
            refine ⟨by omega, by omega, fun s19 e19 => ?_⟩
            have I19 : vIn T σ s19 l g N β p k2 new (rs σ2 1034 0) x (vSm (vCt T may (vf T may (e' + 1)) r) k) := by rw [e19]; exact I16.w (Or.inr rfl)
            have l38 := mln_at I19.2.1.1 1138 16 (by decide)
            have h42d : ra s19 1142 0 ((l : Nat) : Int) = 1 := by rw [e19, wan9 (Or.inl (by decide)), e16, wav9]
            have h37d : ra s19 1137 0 ((l : Nat) : Int) = 0 := by rw [e19, wav9]
            clear e16 e19
            have e0 : ra s19 1138 0 (4 * ((l : Nat) : Int)) = (layGv T k2 g N).2.2.2.getD 0 0 := by
              have := I19.2.2.2.2.2.2.2 0 (by omega)
              rw [show 4 * ((l : Nat) : Int) + ((0 : Nat) : Int) = 4 * ((l : Nat) : Int) by omega] at this
              exact this
            rw [e0, show ((l : Nat) : Int) + 1 = ((l + 1 : Nat) : Int) by omega]
            refine ⟨⟨by omega, by omega⟩, by omega, ⟨by omega, by omega⟩, by omega, by omega, ?_⟩
            refine t_openValue (N := N) I19.2.1.1 (by omega) (fun σ5 y1 y2 y3 y4 y5 => ?_)
            refine nd (tN T k2).toNat 0 σ5 (by omega) (by omega) (I19.up y1 (Int.le_refl _) (I19.2.1.sq y2 (by decide)) (by rw [y2.nrs 1034 0 (by decide)]; exact I19.2.2.1) (by omega)) ?_ ?_ y3 y4 y5
            · rw [y1.2.1 1142 (by decide) _ (by omega)]; exact h42d
            · rw [y1.2.1 1137 (by decide) _ (by omega)]; exact h37d
  refine loop ((tG T).toNat + 1) 0 σ (by omega) (by omega) (vq9.rf _ _ _) (Or.inl ⟨rfl, h36, hm, hp⟩) h35 ?_
  rw [h43]
  rfl
theorem t_vlev {Q : Int → jS → Prop} (hn : 9 ≤ n) (hvar : vNo T may) (hd : d ≤ 3) : ∀ e l : Nat, l + e = d → vLvC T n Q may d e l := by
  intro e
  induction e with
  | zero => intro l h; exact t_vlev1 hn hvar h hd (fun e' w => by omega)
  | succ e ih => intro l h; exact t_vlev1 hn hvar h hd (fun e' w => by
      have w2 : e' = e := by omega
      rw [w2]
      exact ih (l + 1) (by omega))
/-- a closed goal's values are counted -/
theorem t_valuesOf {Q : Int → jS → Prop} (hn : 10 ≤ n) (hvar : vNo T may) (hd : d ≤ 3) (hX : mTx σ T) (hm : mT σ g N β) (hp : rs σ 1034 0 ≤ 100) (hv : vOK g N β x L r) (hL : L.length ≤ 80) (hN : N ≤ 100) (hzu : zu g N ≤ 100) (hq : ∀ σ', sq vmF σ σ' → mT σ' g N β → Q (vl T may d r) σ') : TrI n i_Model_valuesOf [jo 1 0, ji x, ji may, ji (d : Nat)] σ Q := by
  refine wp_Model_valuesOf ⟨by omega, by omega, ?_⟩
  have pn : 0 ≤ rs σ 1034 0 := hm.2.2.2.2.2.2.2.2.1.1
  refine t_openValue (l := 0) (N := N) hm.1 (by omega) (fun σ5 y1 y2 y3 y4 y5 => ?_)
  refine t_vlev (by omega) hvar hd d 0 (by omega) σ5 g N β x L r (rs σ 1034 0) (hX.sq y2 (by decide)) (hm.sq y2 (by decide)) (y2.nrs 1034 0 (by decide)) hv (by omega) (by omega) pn (by omega) (by omega) y3 y4 y5 (fun σ6 z1 z2 z3 z4 => ?_)
  unfold vUp
  rw [show ((0 : Nat) : Int) + (-1) = -1 by omega, if_neg (by decide)]
  refine ⟨⟨by omega, by omega⟩, wp_Model_valuesOf_9 ?_⟩
  have l43 := mln_at z2.1 1143 4 (by decide)
  have hb := vl_b (T := T) (may := may) d r
  have e0 : ra σ6 1143 0 0 = vl T may d r := z4
  rw [if_pos (by decide), e0]
  exact ⟨by omega, by omega, by omega, ⟨by omega, by omega⟩, hq σ6 ((y2.mo (by decide)).tr z1.1) z2⟩
end ZVk
