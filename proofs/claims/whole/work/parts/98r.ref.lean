/-! A tree is kept: the reference. -/
section ZXb
variable {n : Nat} {σ0 σ σ1 σ2 : jS} {L N x : Int} {f : Int → List Int} {g : zH} {β : List (Int × Int)}
/-- what waits on the pile is kept, the last ahead -/
theorem t_keepX {Q : Int → jS → Prop} {root : Int} (hn : 3 ≤ n) (hH : mT σ0 g N β) (ha : acy g N β) (hf : ∀ y, 0 ≤ y → y < N → f y = cno [] (ex g N β y)) (hk0 : kcl σ0) (h00 : 0 ≤ rs σ0 1063 0) (h80 : rs σ0 1063 0 ≤ 7800) (hL : L ≤ 8400) (hroot : root < L) :
    ∀ (w : Nat) (x k : Int) (σ1 : jS), x < 8200 + ((w : Nat) : Int) → 8200 ≤ x → x < L → tOK L N σ0 x → 1 ≤ k → k ≤ 1 + 4 * (root - x) → kpI L f σ0 σ1 → ra σ1 1110 0 (k - 1) = x → (∀ σ2, kpI L f σ0 σ2 → (∀ i : Int, i < k - 1 → ra σ2 1110 0 i = ra σ1 1110 0 i) → (∀ y : Int, ¬ ra σ1 1109 0 y = -1 → ¬ ra σ2 1109 0 y = -1) → ¬ ra σ2 1109 0 (x - 8200) = -1 → J n c_Model_keep (some .int) 36 [some (jo 1 0), some (ji root), some (ji (k - 1)), none, none, none, none] [] σ2 (qI Q)) → J n c_Model_keep (some .int) 36 [some (jo 1 0), some (ji root), some (ji k), none, none, none, none] [] σ1 (qI Q) := by
  intro w
  induction w with
  | zero =>
    intro x k σ1 hw x0
    omega
  | succ w ih =>
    intro x k σ1 hw x0 x1 ht k0 k1 hI htop hc
    have hm1 : mln σ1 := hH.1.sq hI.1
    have l10 := mln_at hm1 1110 900 (by decide)
    obtain ⟨u1, u2, u3⟩ := ht.kids (by omega) (by omega) x0
    -- once all below are kept
    have done : ∀ σ3, kpI L f σ0 σ3 → (∀ i : Int, i < k → ra σ3 1110 0 i = ra σ1 1110 0 i) → (∀ y : Int, ¬ ra σ1 1109 0 y = -1 → ¬ ra σ3 1109 0 y = -1) → (∀ j : Int, 0 ≤ j → j < ra σ0 1057 0 x → 8200 ≤ ra σ0 1058 0 (4 * x + j) → ¬ ra σ3 1109 0 (ra σ0 1058 0 (4 * x + j) - 8200) = -1) → J n c_Model_keep (some .int) 55 [some (jo 1 0), some (ji root), some (ji k), some (ji x), some (ji k), some (ji (ra σ0 1057 0 x)), none] [] σ3 (qI Q) := fun σ3 hI3 hp3 hm3 hall => by
      refine t_keepE hn hH ha hf hk0 h00 h80 hL x0 x1 ht hI3 hall k0 (by omega) rfl (fun σ4 hI4 hp4 hm4 hx4 => hc σ4 hI4 (fun i hi => ?_) (fun y hy => hm4 y (hm3 y hy)) hx4)
      rw [hp4 i]
      exact hp3 i (by omega)
    refine wp_Model_keep_36 ?_
    rw [if_neg (by omega), htop]
    refine ⟨by omega, by omega, ⟨by omega, by omega⟩, by omega, by omega, ?_⟩
    refine t_keepB hm1 (by omega) hL x0 x1 ht hI k0 (by omega) (fun ps σ2 hpl q2 c1 c2 c3 c4 => ?_)
    have hI2 : kpI L f σ0 σ2 := hI.pile q2
    have e09 : ra σ2 1109 0 = ra σ1 1109 0 := q2.nraf 1109 0 (by decide)
    by_cases qp : ps = []
    · subst qp
      rw [show k + ((([] : List Int).length : Nat) : Int) = k by simp]
      refine done σ2 hI2 c1 (fun y hy => by rw [e09]; exact hy) (fun j j0 j1 j2 => ?_)
      rw [e09]
      rcases c4 j j0 j1 j2 with w2 | w2
      · exact w2
      · cases w2
    · -- those on the pile first
      have hpl0 : 0 < ps.length := List.length_pos_iff.mpr qp
      have hm2 : mln σ2 := hH.1.sq hI2.1
      have l57 := mln_at hm2 1057 8420 (by decide)
      have e57 : ra σ2 1057 0 x = ra σ0 1057 0 x := hI2.2.1.2.2.2.1 1057 (by decide) x (Or.inr ⟨x0, by omega⟩)
      have inner : ∀ (i : Nat) (σ3 : jS), i ≤ ps.length → kpI L f σ0 σ3 → (∀ j : Int, j < k → ra σ3 1110 0 j = ra σ1 1110 0 j) → (∀ j : Nat, j < i → ra σ3 1110 0 (k + ((j : Nat) : Int)) = ps.getD j 0) → (∀ y : Int, ¬ ra σ1 1109 0 y = -1 → ¬ ra σ3 1109 0 y = -1) → (∀ j : Nat, i ≤ j → j < ps.length → ¬ ra σ3 1109 0 (ps.getD j 0 - 8200) = -1) → J n c_Model_keep (some .int) 36 [some (jo 1 0), some (ji root), some (ji (k + ((i : Nat) : Int))), none, none, none, none] [] σ3 (qI Q) := by
        intro i
        induction i with
        | zero =>
          intro σ3 hi hI3 hp3 hpp hm3 hall
          have hmm : mln σ3 := hH.1.sq hI3.1
          have l103 := mln_at hmm 1110 900 (by decide)
          rw [show k + (((0 : Nat) : Nat) : Int) = k by omega]
          refine wp_Model_keep_36 ?_
          rw [if_neg (by omega), hp3 _ (by omega), htop]
          refine ⟨by omega, by omega, ⟨by omega, by omega⟩, by omega, by omega, ?_⟩
          have hkept : ∀ j : Int, 0 ≤ j → j < ra σ0 1057 0 x → 8200 ≤ ra σ0 1058 0 (4 * x + j) → ¬ ra σ3 1109 0 (ra σ0 1058 0 (4 * x + j) - 8200) = -1 := fun j j0 j1 j2 => by
            rcases c4 j j0 j1 j2 with w2 | w2
            · exact hm3 _ w2
            · obtain ⟨a, a1, a2⟩ := List.getElem_of_mem w2
              have := hall a (by omega) a1
              rw [List.getD_eq_getElem?_getD, List.getElem?_eq_getElem a1, a2] at this
              exact this
          refine t_keepB hmm (by omega) hL x0 x1 ht hI3 k0 (by omega) (fun ps' σ4 hpl' q4 d1 d2 d3 d4 => ?_)
          have e094 : ra σ4 1109 0 = ra σ3 1109 0 := q4.nraf 1109 0 (by decide)
          have ep : ps' = [] := Classical.byContradiction (fun wn => by
            obtain ⟨y, hy⟩ := List.exists_mem_of_ne_nil ps' wn
            obtain ⟨⟨y0, y1⟩, -, y2, j, j0, j1, j2⟩ := d3 y hy
            rw [j2] at y0 y2
            exact hkept j j0 j1 y0 y2)
          subst ep
          rw [show k + ((([] : List Int).length : Nat) : Int) = k by simp]
          exact done σ4 (hI3.pile q4) (fun j hj => (d1 j hj).trans (hp3 j hj)) (fun y hy => by rw [e094]; exact hm3 y hy) (fun j j0 j1 j2 => by rw [e094]; exact hkept j j0 j1 j2)
        | succ i ihi =>
          intro σ3 hi hI3 hp3 hpp hm3 hall
          have hy : ps.getD i 0 ∈ ps := by
            rw [List.getD_eq_getElem?_getD, List.getElem?_eq_getElem (show i < ps.length by omega)]
            exact List.getElem_mem _
          obtain ⟨⟨y0, y1⟩, yt, -, -⟩ := c3 _ hy
          refine ih (ps.getD i 0) (k + ((i + 1 : Nat) : Int)) σ3 (by omega) y0 (by omega) yt (by omega) (by omega) hI3 (by rw [show k + ((i + 1 : Nat) : Int) - 1 = k + ((i : Nat) : Int) by omega]; exact hpp i (by omega)) (fun σ4 hI4 hp4 hm4 hy4 => ?_)
          rw [show k + ((i + 1 : Nat) : Int) - 1 = k + ((i : Nat) : Int) by omega] at hp4 ⊢
          refine ihi σ4 (by omega) hI4 (fun j hj => (hp4 j (by omega)).trans (hp3 j hj)) (fun j hj => (hp4 _ (by omega)).trans (hpp j (by omega))) (fun y hy2 => hm4 y (hm3 y hy2)) (fun j j0 j1 => ?_)
          by_cases qj : j = i
          · subst qj; exact hy4
          · exact hm4 _ (hall j (by omega) j1)
      by_cases qz : ra σ0 1057 0 x ≤ ra σ0 1057 0 x
      · refine wp_Model_keep_55 ⟨by omega, by omega, by omega, by omega, ?_⟩
        rw [e57, if_pos (by omega), if_neg (by omega)]
        refine inner ps.length σ2 (Nat.le_refl _) hI2 c1 c2 (fun y hy => by rw [e09]; exact hy) (fun j j0 j1 => absurd j1 (by omega))
      · omega
theorem t_keep {Q : Int → jS → Prop} {root : Int} (hn : 3 ≤ n) (hH : mT σ g N β) (ha : acy g N β) (hf : ∀ y, 0 ≤ y → y < N → f y = cno [] (ex g N β y)) (hk0 : kcl σ) (h00 : 0 ≤ rs σ 1063 0) (h80 : rs σ 1063 0 ≤ 7800) (p0 : 0 ≤ rs σ 1065 0) (p1 : rs σ 1065 0 ≤ 100 * rs σ 1063 0) (hL : rs σ 1064 0 ≤ 8400) (r0 : 8200 ≤ root) (r1 : root < rs σ 1064 0) (ht : tOK (rs σ 1064 0) N σ root)
    (hq : ∀ to σ', kpI (rs σ 1064 0) f σ σ' → kOK (rs σ 1064 0) f σ σ' root to → Q to σ') : TrI n i_Model_keep [jo 1 0, ji root] σ Q := by
  have hm := hH.1
  generalize hLe : rs σ 1064 0 = L at *
  have l09 := mln_at hm 1109 220 (by decide)
  have l10 := mln_at hm 1110 900 (by decide)
  obtain ⟨m, hm2⟩ := Int.eq_ofNat_of_zero_le (show 0 ≤ L - 8200 by omega)
  have loop : ∀ (d j : Nat) (σ1 : jS), j + d = m → sq [(1109, 0)] σ σ1 → (∀ i : Int, 0 ≤ i → i < ((j : Nat) : Int) → ra σ1 1109 0 i = -1) → J n c_Model_keep (some .int) 2 [some (jo 1 0), some (ji root), some (ji ((j : Nat) : Int)), none, none, none, none] [] σ1 (qI Q) := by
    intro d
    induction d with
    | zero =>
      intro j σ1 hj e1 h1
      refine wp_Model_keep_2 ⟨by omega, ?_⟩
      rw [e1.nrs 1064 0 (by decide), hLe, if_pos (by omega), e1.nrl 1110 0, l10]
      refine ⟨⟨by omega, by omega⟩, by omega, by omega, fun s4 e4 => ?_⟩
      have f4 : sq [(1110, 0)] σ1 s4 := by rw [e4]; exact (sq.rf _ σ1).pwa 1110 0 _ _ (by decide)
      have r4 : ra s4 1110 0 0 = root := by rw [e4]; exact wa_at _ _ _ _
      clear e4
      have q4 : sq [(1109, 0), (1110, 0)] σ s4 := (e1.mo (by decide)).tr (f4.mo (by decide))
      have n4 : ∀ i : Int, 0 ≤ i → i < L - 8200 → ra s4 1109 0 i = -1 := fun i i0 i1 => by
        rw [f4.nra 1109 0 _ (by decide)]
        exact h1 i i0 (by omega)
      have hI4 : kpI L f σ s4 := by
        refine ⟨q4.mo (by decide), q4.ndK (by decide), hk0.sq q4 (by decide), ?_, ?_, q4.nrs 1064 0 (by decide), fun y y0 y1 => Or.inl (n4 _ (by omega) (by omega))⟩
        · rw [q4.nrs 1065 0 (by decide), q4.nrs 1063 0 (by decide)]; exact ⟨p0, p1⟩
        · rw [cnP_no (fun i i0 i1 => n4 i i0 (by omega)), q4.nrs 1063 0 (by decide)]; omega
      have := t_keepX (Q := Q) hn hH ha hf hk0 h00 h80 hL r1 200 root 1 s4 (by omega) r0 r1 ht (Int.le_refl _) (by omega) hI4 r4 (fun σ2 hI2 _ _ hx2 => ?_)
      · exact this
      · have hm2' : mln σ2 := hm.sq hI2.1
        have l92 := mln_at hm2' 1109 220 (by decide)
        refine wp_Model_keep_36 ?_
        rw [if_pos (by omega)]
        refine ⟨by omega, by omega, ⟨by omega, by omega⟩, by omega, by omega, ?_⟩
        rcases hI2.2.2.2.2.2.2 root r0 r1 with w | w
        · exact absurd w hx2
        · exact hq _ σ2 hI2 w
    | succ d ih =>
      intro j σ1 hj e1 h1
      refine wp_Model_keep_2 ⟨by omega, ?_⟩
      rw [e1.nrs 1064 0 (by decide), hLe, if_neg (by omega), e1.nrl 1109 0, l09]
      refine ⟨⟨by omega, by omega⟩, by omega, by omega, by omega, fun s7 e7 => ⟨⟨by omega, by omega⟩, ?_⟩⟩
      have f7 : sq [(1109, 0)] σ1 s7 := by rw [e7]; exact (sq.rf _ σ1).pwa 1109 0 _ _ (by decide)
      have r7 : ∀ i : Int, ra s7 1109 0 i = if i = ((j : Nat) : Int) then -1 else ra σ1 1109 0 i := fun i => by
        rw [e7]
        unfold wa
        rw [raf_wA, if_pos ⟨rfl, rfl⟩]
        rfl
      clear e7
      rw [show ((j : Nat) : Int) + 1 = ((j + 1 : Nat) : Int) by omega]
      refine ih (j + 1) s7 (by omega) (e1.tr f7) (fun i i0 i1 => ?_)
      rw [r7]
      by_cases q : i = ((j : Nat) : Int)
      · rw [if_pos q]
      · rw [if_neg q]; exact h1 i i0 (by omega)
  refine wp_Model_keep ?_
  exact loop m 0 σ (by omega) (sq.rf _ σ) (fun i i0 i1 => absurd i1 (by omega))
end ZXb
