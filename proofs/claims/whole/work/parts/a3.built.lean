/-! How many values: a given one is built for a count; what counting keeps, the class. -/
section ZVe
variable {n : Nat} {σ σ1 : jS} {g : zH} {N : Int} {β E : List (Int × Int)} {x u t : Int} {T : zT} {vs : Int → Int}
theorem c_bg21v {Q : Int → jS → Prop} {k d rt tx : Int} (hn : 8 ≤ n) (hT : tok T) (k0 : 0 ≤ k) (k1 : k < tG T) (d0 : 0 ≤ d) (d1 : d < 20) (htx : tx = 0 ∨ tx = 1) :
    ∀ (j i : Nat) (g : zH) (N : Int) (vs : Int → Int) (σ1 : jS), ((i + j : Nat) : Int) = tN T k → cT σ1 g N β → cV σ1 vs → vok g N vs → cC σ1 → cTx σ1 T → rs σ1 7019 0 = tx → N + 12 * (j : Nat) ≤ 40000 → zu g N + unu vs ≤ 20000 → (∀ σ2, cT σ2 (layNs T k j (i + 1) g N vs).1 (layNs T k j (i + 1) g N vs).2.1 β → cq bgF σ1 σ2 → (∀ i' : Nat, i' < j → ra σ2 7012 0 (d * 4 + i + i') = (layNs T k j (i + 1) g N vs).2.2.2.getD i' 0) → (∀ z, (z < d * 4 + i ∨ d * 4 + 4 ≤ z) → ra σ2 7012 0 z = ra σ1 7012 0 z) → Q rt σ2) → J n c_Search_buildGiven (some .int) 21 [some (jo 7 0), some (ji k), some (ji d), some (ji rt), some (ji (i : Nat))] [] σ1 (qI Q) := by
  intro j
  induction j with
  | zero =>
    intro i g N vs σ1 hi h hV hv hC hx htx2 hN hz hq
    have hx0 := hx
    obtain ⟨-, tx', h2, h3, h4, h5, h6, h7, h8, h9⟩ := hx
    have e : tx' = tx := h3.symm.trans htx2
    subst e
    refine wp_Search_buildGiven_21 ⟨by omega, by omega, by omega, ?_⟩
    rw [h3]
    refine wp_Text_needsOf ⟨by omega, by omega, c_hasGiven (by omega) h6 hT ?_⟩
    have l6 : rl σ1 10006 tx' = 24 := by
      rcases h2 with w | w
      · rw [w]; exact cln_at h.1.1 10006 0 24 (by decide)
      · rw [w]; exact cln_at h.1.1 10006 1 24 (by decide)
    have hG := hT.2.2.2.1
    rw [show (if 0 ≤ k ∧ k < tG T then (1 : Int) else 0) = 1 from if_pos ⟨k0, k1⟩, if_neg (by decide), (h9 k k0 k1).2.1]
    refine ⟨by omega, k0, by omega, ?_⟩
    rw [if_pos (by omega)]
    exact hq σ1 h (cq.rf _ _) (fun i' hi' => absurd hi' (Nat.not_lt_zero _)) (fun z _ => rfl)
  | succ j ih =>
    intro i g N vs σ1 hi h hV hv hC hx htx2 hN hz hq
    have hx0 := hx
    obtain ⟨-, tx', h2, h3, h4, h5, h6, h7, h8, h9⟩ := hx
    have e : tx' = tx := h3.symm.trans htx2
    subst e
    have hG := hT.2.2.2.1
    have hgk := hT.2.2.2.2.2 k k0 k1
    have hgk4 := hgk.2.2.2.1
    have hr := hgk.2.2.2.2 (i + 1) (by omega)
    have hrl := hr.2.2
    have hfl := (h9 k k0 k1).2.2.1 (i + 1) (by omega)
    have t70 := cC_at hC 7000 0 0 (by decide)
    have l12 := cln_at h.1.1 7012 0 80 (by decide)
    refine wp_Search_buildGiven_21 ⟨by omega, by omega, by omega, ?_⟩
    rw [h3]
    refine wp_Text_needsOf ⟨by omega, by omega, c_hasGiven (by omega) h6 hT ?_⟩
    have l6 : rl σ1 10006 tx' = 24 := by
      rcases h2 with w | w
      · rw [w]; exact cln_at h.1.1 10006 0 24 (by decide)
      · rw [w]; exact cln_at h.1.1 10006 1 24 (by decide)
    rw [show (if 0 ≤ k ∧ k < tG T then (1 : Int) else 0) = 1 from if_pos ⟨k0, k1⟩, if_neg (by decide), (h9 k k0 k1).2.1]
    refine ⟨by omega, k0, by omega, ?_⟩
    rw [if_neg (by omega), h3, t70]
    refine ⟨by omega, ⟨by omega, by omega⟩, ⟨by omega, by omega⟩, ⟨by omega, by omega⟩, by omega, ?_⟩
    rw [show ((i : Nat) : Int) + 1 = ((i + 1 : Nat) : Int) by omega]
    refine c_partFlat (i := i + 1) h2 h.1.1 h7 k0 (by omega) (by omega) ⟨by omega, ?_⟩
    refine c_build (vs := vs) (by omega) h hfl hv (Or.inl ⟨rfl, hV⟩) hr.2.1 hr.1 (by omega) hz (by omega) (fun σ2 a1 a2 a3 a8 => ?_)
    have l12b : rl σ2 7012 0 = 80 := by rw [a3.nrl2 7012 0 (by decide) (by decide)]; exact l12
    refine ⟨by omega, by omega, fun s17 e17 => ?_⟩
    have f17 : sq [(7012, 0)] σ2 s17 := by rw [e17]; exact (sq.rf _ σ2).pwa 7012 0 _ _ (by decide)
    have q17 : cq bgF σ1 s17 := (a3.mo (by decide)).tr (f17.cq (by decide))
    have a12 : ra s17 7012 0 = upI (ra σ1 7012 0) (d * 4 + (i : Nat)) ((layR (tR T k (i + 1)) g N vs).2.2.2.headD 0) := by
      rw [e17]
      show upI (ra σ2 7012 0) _ _ = _
      rw [a3.nraf 7012 0 (by decide) (by decide)]
    obtain ⟨l1, l2, -, l4, l5, -, -, -, -, -, -, l13, -, -⟩ := a8
    refine ih (i + 1) _ _ _ s17 (by omega) (a1.sq f17 (by decide)) (fun v v0 v1 => by rw [f17.nraf 9010 0 (by decide)]; exact a2 v v0 v1) l5 (hC.cq q17 (by decide)) (hx0.cq q17 (by decide) (nofl (by decide))) (by rw [q17.nrs 7019 0 (by decide) (by decide)]; exact htx2) (by omega) (by rw [l13]; exact hz) (fun σ3 b1 b2 b3 b4 => hq σ3 b1 (q17.tr b2) (fun i' hi' => ?_) (fun z hz2 => ?_))
    · cases i' with
      | zero =>
        rw [b4 _ (by omega), a12]
        unfold upI
        rw [if_pos (by omega)]
        rfl
      | succ i' =>
        have := b3 i' (by omega)
        rw [show d * 4 + ((i : Nat) : Int) + ((i' + 1 : Nat) : Int) = d * 4 + ((i + 1 : Nat) : Int) + (i' : Nat) by omega, this]
        rfl
    · rw [b4 z (by omega), a12]
      unfold upI
      rw [if_neg (by omega)]
theorem c_buildGivenV {Q : Int → jS → Prop} {k d : Int} (hn : 9 ≤ n) (h : cT σ g N β) (hC : cC σ) (hx : cTx σ T) (k0 : 0 ≤ k) (k1 : k < tG T) (d0 : 0 ≤ d) (d1 : d < 20) (hN : N + 60 ≤ 40000) (hz : zu g N + 26 ≤ 20000)
    (hq : ∀ σ2, cT σ2 (layGv T k g N).1 (layGv T k g N).2.1 β → cq bgF σ σ2 → (∀ i : Nat, i < (layGv T k g N).2.2.2.length → ra σ2 7012 0 (d * 4 + i) = (layGv T k g N).2.2.2.getD i 0) → (∀ z, (z < d * 4 ∨ d * 4 + 4 ≤ z) → ra σ2 7012 0 z = ra σ 7012 0 z) → Q (layGv T k g N).2.2.1 σ2) : TrI n i_Search_buildGiven [jo 7 0, ji k, ji d] σ Q := by
  have hT := hx.1
  have hG := hT.2.2.2.1
  have hx0 := hx
  obtain ⟨-, tx, h2, h3, h4, h5, h6, h7, h8, h9⟩ := hx
  have t70 := cC_at hC 7000 0 0 (by decide)
  have hgk := hT.2.2.2.2.2 k k0 k1
  have hr := hgk.2.2.2.2 0 hgk.2.2.1
  have hrl := hr.2.2
  have hfl := (h9 k k0 k1).2.2.1 0 hgk.2.2.1
  refine wp_Search_buildGiven ⟨by omega, by omega, by omega, ?_⟩
  rw [h3, t70]
  refine c_partFlat (i := 0) h2 h.1.1 h7 k0 (by omega) (by omega) ⟨by omega, ?_⟩
  refine c_build (vs := fun _ => -1) (by omega) h hfl (vok_n g N) (Or.inr ⟨rfl, rfl⟩) hr.2.1 hr.1 (by omega) (by rw [unu_n]; exact hz) (by omega) (fun σ2 a1 a2 a3 a8 => ?_)
  obtain ⟨l1, l2, -, l4, l5, -, -, -, -, -, -, l13, -, -⟩ := a8
  rw [unu_n] at l13
  refine c_bg21v (T := T) (tx := tx) (by omega) hT k0 k1 d0 d1 h2 (tN T k).toNat 0 _ _ _ σ2 (by omega) a1 a2 l5 (hC.cq a3 (by decide)) (hx0.cq a3 (by decide) (nofl (by decide))) (by rw [a3.nrs 7019 0 (by decide) (by decide)]; exact h3) (by omega) (by omega) (fun σ3 b1 b2 b3 b4 => hq σ3 b1 ((a3.mo (by decide)).tr b2) (fun i hi => ?_) (fun z hz2 => ?_))
  · have hl := (lgv_ok hT k0 k1 h.1.2.1 h.1.2.2.2.2.1).2.2.2.2.2.2.1
    have := b3 i (by omega)
    rw [show d * 4 + ((i : Nat) : Int) = d * 4 + ((0 : Nat) : Int) + (i : Nat) by omega]
    exact this
  · rw [b4 z (by omega), a3.nraf 7012 0 (by decide) (by decide)]
end ZVe
