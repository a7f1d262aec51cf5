/-! How many values: the reference, the next given one that is one for a goal. -/
def vKp (l : Nat) (σ σ' : jS) : Prop := ∀ F, F ∈ ([1135, 1137, 1142, 1143] : List Nat) → ra σ' F 0 ((l : Nat) : Int) = ra σ F 0 ((l : Nat) : Int)
section ZVi
variable {n l : Nat} {σ σ1 σ2 : jS} {g g' : zH} {N N' may x p s0 : Int} {β new β' : List (Int × Int)} {T : zT} {r L : List Int} {f : Option (List Int → Int)}
theorem vKp.rf (l : Nat) (σ : jS) : vKp l σ σ := fun _ _ => rfl
theorem vKp.tr (h : vKp l σ σ1) (h' : vKp l σ1 σ2) : vKp l σ σ2 := fun F hF => (h' F hF).trans (h F hF)
theorem vKp.of {ls : List (Nat × Int)} (e : sq ls σ σ1) (h2 : (([(1135, 0), (1137, 0), (1142, 0), (1143, 0)] : List (Nat × Int)).all (fun p => !ls.contains p)) = true) : vKp l σ σ1 := fun F hF => by
  have hm : ∀ p, p ∈ ([(1135, 0), (1137, 0), (1142, 0), (1143, 0)] : List (Nat × Int)) → ls.contains p = false := fun p hp => by
    have := List.all_eq_true.mp h2 p hp
    simpa using this
  have : ∀ F, F ∈ ([1135, 1137, 1142, 1143] : List Nat) → (F, (0 : Int)) ∈ ([(1135, 0), (1137, 0), (1142, 0), (1143, 0)] : List (Nat × Int)) := by decide
  exact e.nra F 0 _ (hm _ (this F hF))
theorem t_nx25 {Q : Int → jS → Prop} {kk : Nat} (hn : 6 ≤ n) (hX : mTx σ T) (hv : vOK g N β x L r) (hL : L.length ≤ 180) (hl4 : l < 4) (hx : ra σ 1135 0 ((l : Nat) : Int) = x) (hN : N + 60 ≤ 40000) (p0 : 0 ≤ p) (hp1 : p + 60 ≤ 40000) (hzu : zu g N + 26 ≤ 20000) (hvar : vNo T may) (hf : ∀ f', f = some f' → ∀ r, 0 ≤ f' r)
    (hq0 : ∀ σ', vq9 l N σ σ' → mT σ' g N β → rs σ' 1034 0 = p → vKp l σ σ' → vSm (vCt T may f r) (tG T).toNat = s0 → Q 0 σ')
    (hq1 : ∀ (σ' : jS) (k : Nat) (new : List (Int × Int)), kk ≤ k → ((k : Nat) : Int) < tG T → vq9 l N σ σ' → mT σ' (layGv T k g N).1 (layGv T k g N).2.1 (new ++ β) → vMk σ' l g N β p → rs σ' 1034 0 ≤ p + 60 → vKp l σ σ' → ra σ' 1136 0 ((l : Nat) : Int) = ((k : Nat) : Int) → (∀ q : Nat, q < (tN T k).toNat → ra σ' 1138 0 (4 * ((l : Nat) : Int) + ((q : Nat) : Int)) = (layGv T k g N).2.2.2.getD q 0) → tb may k = true ∧ becm (tR T k 0) r → (∀ θ : Int → List Int, (∀ v, Typ (θ v)) → sbt θ (tR T k 0) = r → ∀ q : Nat, q < (tN T k).toNat → ∃ L' : List Int, L'.length ≤ L.length + 24 ∧ vOK (layGv T k g N).1 (layGv T k g N).2.1 (new ++ β) ((layGv T k g N).2.2.2.getD q 0) L' (sbt θ (tR T k (q + 1))) ∧ (sbt θ (tR T k (q + 1))).length ≤ 12 * r.length) → vSm (vCt T may f r) k = s0 → Q 1 σ') :
    ∀ (j k : Nat) (σ1 : jS), k + j = (tG T).toNat → kk ≤ k → vq9 l N σ σ1 → mT σ1 g N β → rs σ1 1034 0 = p → vKp l σ σ1 → ra σ1 1136 0 ((l : Nat) : Int) = ((k : Nat) : Int) → vSm (vCt T may f r) k = s0 → J n c_Model_nextGiven (some .boolean) 25 [some (jo 1 0), some (ji (l : Nat)), some (ji may), none, none, none] [] σ1 (qI Q) := by
  have hT := hX.1
  have hG := hT.2.2.2.1
  have hG0 := hT.2.2.1
  have hcb := fun k => vCt_b (T := T) (may := may) (f := f) (r := r) hf k
  intro j
  induction j with
  | zero =>
    intro k σ1 hk hkk e1 hm hp hK h36 hs
    have hx1 := hX.sq e1.1 (by decide)
    have l36 := mln_at hm.1 1136 4 (by decide)
    refine wp_Model_nextGiven_25 ⟨by omega, by omega, by omega, by omega, ?_⟩
    rw [h36, hx1.2.2.1, if_pos (by omega)]
    have ek : k = (tG T).toNat := by omega
    exact hq0 σ1 e1 hm hp hK (by rw [← ek]; exact hs)
  | succ j ih =>
    intro k σ1 hk hkk e1 hm hp hK h36 hs
    have hkG : ((k : Nat) : Int) < tG T := by omega
    have k0 : 0 ≤ ((k : Nat) : Int) := by omega
    have hx1 := hX.sq e1.1 (by decide)
    have l36 := mln_at hm.1 1136 4 (by decide)
    have l39 := mln_at hm.1 1139 4 (by decide)
    have l40 := mln_at hm.1 1140 4 (by decide)
    have l41 := mln_at hm.1 1141 4 (by decide)
    have hb := vSm_b (fun k => (hcb k).1) (c := vCt T may f r) k
    have skip : vCt T may f r k = 0 → vSm (vCt T may f r) (k + 1) = s0 := fun h0 => by
      show min (vSm (vCt T may f r) k + vCt T may f r k) 1000000 = s0
      rw [h0, ← hs]
      omega
    refine wp_Model_nextGiven_25 ⟨by omega, by omega, by omega, by omega, ?_⟩
    rw [h36, hx1.2.2.1, if_neg (by omega)]
    refine ⟨by omega, by omega, fun s6 e6 => ?_⟩
    have q6 : vq9 l N σ s6 := by rw [e6]; exact e1.w (by decide) (Int.le_refl _)
    have f6 : sq [(1139, 0), (1140, 0), (1141, 0)] σ1 s6 := by rw [e6]; exact (sq.rf _ σ1).pwa 1139 0 _ _ (by decide)
    rw [f6.nrl 1140 0, l40]
    refine ⟨by omega, by omega, fun s9 e9 => ?_⟩
    have q9 : vq9 l N σ s9 := by rw [e9]; exact q6.w (by decide) (Int.le_refl _)
    have f9 : sq [(1139, 0), (1140, 0), (1141, 0)] σ1 s9 := by rw [e9]; exact f6.pwa 1140 0 _ _ (by decide)
    rw [f9.nrl 1141 0, l41]
    refine ⟨by omega, by omega, fun s12 e12 => ?_⟩
    have q12 : vq9 l N σ s12 := by rw [e12]; exact q9.w (by decide) (Int.le_refl _)
    have f12 : sq [(1139, 0), (1140, 0), (1141, 0)] σ1 s12 := by rw [e12]; exact f9.pwa 1141 0 _ _ (by decide)
    have m12 : mT s12 g N β := hm.sq f12 (by decide)
    have p12 : rs s12 1034 0 = p := by rw [f12.nrs 1034 0 (by decide)]; exact hp
    have K12 : vKp l σ s12 := hK.tr (.of f12 (by decide))
    have a36 : ra s12 1136 0 ((l : Nat) : Int) = ((k : Nat) : Int) := by rw [f12.nra 1136 0 _ (by decide)]; exact h36
    have M12 : vMk s12 l g N β p := by
      refine ⟨?_, ?_, ?_, m12.pbd (by omega)⟩
      · rw [e12, wan9 (Or.inl (by decide)), e9, wan9 (Or.inl (by decide)), e6, wav9]
        exact hm.2.2.2.2.2.2.2.2.2.2.2.1
      · rw [e12, wan9 (Or.inl (by decide)), e9, wav9, f6.nrs 1033 0 (by decide)]
        exact hm.2.2.2.1
      · rw [e12, wav9, f9.nrs 1034 0 (by decide)]
        exact hp
    clear e6 e9 e12 q6 q9 f6 f9
    have next0 : ∀ σ2, vq9 l N σ σ2 → mT σ2 g N β → rs σ2 1034 0 = p → vKp l σ σ2 → ra σ2 1136 0 ((l : Nat) : Int) = ((k : Nat) : Int) → vCt T may f r k = 0 → 0 ≤ rl σ2 1136 0 ∧ ((l : Nat) : Int) < rl σ2 1136 0 ∧ i32 ((ra σ2 1136 0 ((l : Nat) : Int)) + 1) ∧ (∀ zs20, zs20 = wa σ2 1136 0 ((l : Nat) : Int) ((ra σ2 1136 0 ((l : Nat) : Int)) + 1) → J n c_Model_nextGiven (some .boolean) 25 [some (jo 1 0), some (ji (l : Nat)), some (ji may), none, none, none] [] zs20 (qI Q)) := fun σ2 d1 d2 d3 d4 d5 d6 => by
      have l36b := mln_at d2.1 1136 4 (by decide)
      refine ⟨by omega, by omega, by rw [d5]; exact ⟨by omega, by omega⟩, fun s20 e20 => ?_⟩
      have f20 : sq [(1136, 0)] σ2 s20 := by rw [e20]; exact (sq.rf _ σ2).pwa 1136 0 _ _ (by decide)
      refine ih (k + 1) s20 (by omega) (by omega) (by rw [e20]; exact d1.w (by decide) (Int.le_refl _)) (d2.sq f20 (by decide)) (by rw [f20.nrs 1034 0 (by decide)]; exact d3) (d4.tr (.of f20 (by decide))) ?_ (skip d6)
      rw [e20, wav9, d5]
      omega
    refine ⟨by omega, t_has (by omega) (by omega) ?_⟩
    unfold has1
    by_cases qm : tb may ((k : Nat) : Int) = true
    · rw [if_pos qm, if_neg (by decide)]
      obtain ⟨hz, hbk, ha, hN0, ⟨x0, x1⟩, hxr, hcl, -⟩ := id hv
      obtain ⟨b1, b2, b3, b4, b5, ⟨b6, b6b⟩, b7, b8⟩ := lgv_ok hT k0 hkG hz hN0
      obtain ⟨Rs, u1, u2, u3, u4, u5, u6, u7, u8, u9⟩ := vU hT k0 hkG (hvar k k0 hkG qm) hv
      refine t_layGiven0 (by omega) m12 (hX.sq q12.1 (by decide)) k0 hkG (by omega) (by omega) (by omega) (fun σ2 hl => ?_)
      obtain ⟨c1, c2, c3, c4, c5, c6, c7, c8⟩ := hl
      have hgk2 := hT.2.2.2.2.2 k k0 hkG
      have hr0 := hgk2.2.2.2.2 0 hgk2.2.2.1
      have hrt := lay_root c8 hr0.1
      obtain ⟨d1, d2, -, d4, d5, -, -, -, -, -, -, d12, -⟩ := c8
      rw [unu_n] at d12
      have hN4 := hgk2.2.2.2.1
      have hr12 := hr0.2.2
      have hzu2 : zu (layR (tR T k 0) g N (fun _ => -1)).1 (layR (tR T k 0) g N (fun _ => -1)).2.1 + unu (layR (tR T k 0) g N (fun _ => -1)).2.2.1 ≤ 20000 := by omega
      obtain ⟨tn, htn⟩ := Int.eq_ofNat_of_zero_le hgk2.2.2.1
      have key := t_vNs (Q := Q) (rt := (layGv T k g N).2.2.1) (T := T) (β := β) (l := l) (n := n) (may := may) (k := ((k : Nat) : Int)) (by omega) hT k0 hkG hl4 tn 0 (layR (tR T k 0) g N (fun _ => -1)).1 (layR (tR T k 0) g N (fun _ => -1)).2.1 (layR (tR T k 0) g N (fun _ => -1)).2.2.1 σ2 (by omega) c1 c2 d5 ((hX.sq q12.1 (by decide)).sq c3 (by decide)) (by omega) (by omega) hzu2
      rw [show ((0 : Nat) : Int) + 1 = 1 by omega] at key
      refine key (fun σ3 m1 m2 m3 m4 m5 m6 => ?_)
      have etn : (tN T k).toNat = tn := by omega
      have eg1 : (layNs T k tn (0 + 1) (layR (tR T k 0) g N (fun _ => -1)).1 (layR (tR T k 0) g N (fun _ => -1)).2.1 (layR (tR T k 0) g N (fun _ => -1)).2.2.1).1 = (layGv T k g N).1 := by rw [← etn]; rfl
      have eg2 : (layNs T k tn (0 + 1) (layR (tR T k 0) g N (fun _ => -1)).1 (layR (tR T k 0) g N (fun _ => -1)).2.1 (layR (tR T k 0) g N (fun _ => -1)).2.2.1).2.1 = (layGv T k g N).2.1 := by rw [← etn]; rfl
      have eg4 : (layNs T k tn (0 + 1) (layR (tR T k 0) g N (fun _ => -1)).1 (layR (tR T k 0) g N (fun _ => -1)).2.1 (layR (tR T k 0) g N (fun _ => -1)).2.2.1).2.2.2 = (layGv T k g N).2.2.2 := by rw [← etn]; rfl
      rw [eg1, eg2] at m1
      rw [eg4] at m5
      -- what has changed so far
      have q23 : sq ((1138, 0) :: lF) s12 σ3 := (c3.mo (by decide)).tr m2
      have kp3 : kpp s12 σ3 N := c4.tr m3 d1
      have v3 : vq9 l N σ σ3 := q12.tr ⟨q23.mo (by decide), fun F hF z _ => q23.nra F 0 z (by
        have : ∀ F, F ∈ vmR → ((1138, 0) :: lF).contains (F, 0) = false := by decide
        exact this F hF), fun z hz2 => by rw [m6 z (by omega), c3.nra 1138 0 _ (by decide)], kp3⟩
      have l10 := mln_at m1.1 1010 24 (by decide)
      have l35 := mln_at m1.1 1135 4 (by decide)
      have x3 : mTx σ3 T := hX.sq v3.1 (by decide)
      have e10 := (x3.2.2.2.2.1 k k0 hkG).2.1
      have K3 : vKp l σ σ3 := K12.tr (.of q23 (by decide))
      have e35 : ra σ3 1135 0 ((l : Nat) : Int) = x := by rw [K3 1135 (by decide)]; exact hx
      have M3 : vMk σ3 l g N β p := by
        obtain ⟨y1, y2, y3, y4⟩ := M12
        refine ⟨?_, ?_, ?_, y4.k kp3⟩
        · rw [q23.nra 1139 0 _ (by decide)]; exact y1
        · rw [q23.nra 1140 0 _ (by decide)]; exact y2
        · rw [q23.nra 1141 0 _ (by decide)]; exact y3
      refine wp_Model_nextGiven_94 ⟨by omega, by omega, k0, by omega, ?_⟩
      rw [e10, if_pos (by omega), e35]
      refine ⟨by omega, by omega, by omega, by omega, ?_⟩
      refine t_isUnified (Rs := Rs) (by omega) (by omega) m1 u2 u3 u4.1 u4.2 u5.1 u5.2 u6 u7 (fun bb new σ4 w1 w2 w3 => ?_)
      have v4 : vq9 l N σ σ4 := v3.tr (.of w2 (by decide) (by decide) (kpp.of w2 (by decide)))
      have K4 : vKp l σ σ4 := K3.tr (.of w2 (by decide))
      have M4 : vMk σ4 l g N β p := by
        obtain ⟨y1, y2, y3, y4⟩ := M3
        refine ⟨?_, ?_, ?_, y4.k (kpp.of w2 (by decide))⟩
        · rw [w2.nra 1139 0 _ (by decide)]; exact y1
        · rw [w2.nra 1140 0 _ (by decide)]; exact y2
        · rw [w2.nra 1141 0 _ (by decide)]; exact y3
      have a36b : ra σ4 1136 0 ((l : Nat) : Int) = ((k : Nat) : Int) := by rw [w2.nra 1136 0 _ (by decide), q23.nra 1136 0 _ (by decide)]; exact a36
      rcases u9 bb new w1.2.2.1 w3 with ⟨z1, z2, z3, z4⟩ | ⟨z1, z2⟩
      · rw [z1, if_neg (by decide)]
        refine hq1 σ4 k new hkk hkG v4 w1 M4 ?_ K4 a36b (fun q hq2 => ?_) ⟨qm, z2⟩ z4 hs
        · rw [w2.nrs 1034 0 (by decide)]
          omega
        · rw [w2.nra 1138 0 _ (by decide)]
          have := m5 q (by omega)
          rw [show 4 * ((l : Nat) : Int) + ((0 : Nat) : Int) + ((q : Nat) : Int) = 4 * ((l : Nat) : Int) + ((q : Nat) : Int) by omega] at this
          exact this
      · rw [if_pos z1]
        refine t_vback (by omega) w1 M4 hl4 b3 b1 hN0 hz hbk (by omega) p0 (by omega) (fun σ5 y1 y2 y3 => ?_)
        refine next0 σ5 (v4.tr ?_) y1 y3 (K4.tr (.of y2 (by decide))) (by rw [y2.nra 1136 0 _ (by decide)]; exact a36b) (vCt_no (fun w => z2 w.2))
        exact .of y2 (by decide) (by decide) (kpp.of y2 (by decide))
    · rw [if_neg qm, if_pos rfl]
      exact next0 s12 q12 m12 p12 K12 a36 (vCt_no (fun w => qm w.1))
end ZVi
