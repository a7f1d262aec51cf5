/-! A tree is kept, those below ahead: the reference. -/
def keF : List (Nat × Int) := (1109, 0) :: (1110, 0) :: kqF
/-- while a tree is kept -/
def kpI (L : Int) (f : Int → List Int) (σ0 σ : jS) : Prop := sq keF σ0 σ ∧ ndK 8420 σ0 σ ∧ kcl σ ∧ (0 ≤ rs σ 1065 0 ∧ rs σ 1065 0 ≤ 100 * rs σ 1063 0) ∧ rs σ 1063 0 = rs σ0 1063 0 + cnP (ra σ 1109 0) (L - 8200).toNat ∧ rs σ 1064 0 = rs σ0 1064 0 ∧ ∀ y : Int, 8200 ≤ y → y < L → ra σ 1109 0 (y - 8200) = -1 ∨ kOK L f σ0 σ y (ra σ 1109 0 (y - 8200))
/-- the tree of a node that waits -/
def tOK (L N : Int) (σ0 : jS) (x : Int) : Prop := ∃ t, nRs L σ0 [x] t ∧ ∀ z : zN, .inl z ∈ t → 0 ≤ nGl z ∧ nGl z < N
section ZXa
variable {n : Nat} {σ0 σ σ1 σ2 : jS} {L N x : Int} {f : Int → List Int} {g : zH} {β : List (Int × Int)}
theorem cnP_no {h : Int → Int} : ∀ {m : Nat}, (∀ i : Int, 0 ≤ i → i < m → h i = -1) → cnP h m = 0 := by
  intro m
  induction m with
  | zero => intro _; rfl
  | succ m ih =>
    intro hh
    unfold cnP
    rw [ih (fun i i0 i1 => hh i i0 (by omega)), hh _ (by omega) (by omega)]
    rfl
theorem kcl.sq {l : List (Nat × Int)} (h : kcl σ) (e : sq l σ σ1) (hl : (l.contains (1057, 0) || l.contains (1058, 0) || l.contains (1063, 0)) = false) : kcl σ1 := by
  rw [Bool.or_eq_false_iff, Bool.or_eq_false_iff] at hl
  intro m m0 m1
  rw [e.nrs 1063 0 hl.2] at m1 ⊢
  rw [e.nraf 1057 0 hl.1.1, e.nraf 1058 0 hl.1.2]
  exact h m m0 m1
/-- what stands on the pile changes -/
theorem kpI.pile (h : kpI L f σ0 σ) (e : sq [(1110, 0)] σ σ1) : kpI L f σ0 σ1 := by
  obtain ⟨h1, h2, h3, h4, h5, h6, h7⟩ := h
  have hn : ndK 8420 σ σ1 := e.ndK (by decide)
  refine ⟨h1.tr (e.mo (by decide)), h2.tr hn, h3.sq e (by decide), ?_, ?_, ?_, fun y y0 y1 => ?_⟩
  · rw [e.nrs 1065 0 (by decide), e.nrs 1063 0 (by decide)]; exact h4
  · rw [e.nrs 1063 0 (by decide), e.nraf 1109 0 (by decide)]; exact h5
  · rw [e.nrs 1064 0 (by decide)]; exact h6
  · rw [e.nraf 1109 0 (by decide)]
    rcases h7 y y0 y1 with w | w
    · exact Or.inl w
    · exact Or.inr (w.K (hn.mo (by decide)))
/-- what lies below a live node -/
theorem tOK.kids (h : tOK L N σ0 x) (h8 : rs σ0 1063 0 ≤ 8200) (hL : L ≤ 8420) (x0 : 8200 ≤ x) : (0 ≤ ra σ0 1057 0 x ∧ ra σ0 1057 0 x ≤ 4) ∧ (0 ≤ ra σ0 1060 0 x ∧ ra σ0 1060 0 x < N) ∧ ∀ j : Int, 0 ≤ j → j < ra σ0 1057 0 x → 0 ≤ ra σ0 1058 0 (4 * x + j) ∧ ra σ0 1058 0 (4 * x + j) < x ∧ (ra σ0 1058 0 (4 * x + j) < rs σ0 1063 0 ∨ (8200 ≤ ra σ0 1058 0 (4 * x + j) ∧ ra σ0 1058 0 (4 * x + j) < L)) ∧ tOK L N σ0 (ra σ0 1058 0 (4 * x + j)) := by
  obtain ⟨t, h1, h2⟩ := h
  cases t with
  | nil => exact False.elim h1
  | cons z t =>
    rcases z with ⟨a1, a2, a3, a4, a5, a6, a7, r⟩ | b
    · obtain ⟨c1, c2⟩ := h1
      obtain ⟨d1, d2, d3, d4, d5, d6, d7, d8, d9, d10⟩ := c1
      cases r with
      | some r => exact absurd d10.1 (by omega)
      | none =>
        dsimp only at d7 d8 d10
        have hy := h2 (a1, a2, a3, a4, a5, a6, a7, none) List.mem_cons_self
        have hy2 : 0 ≤ a7 ∧ a7 < N := hy
        have d10' : ra σ0 1060 0 x = a7 := d10.2.1
        have hk : nRs L σ0 (kidL σ0 x a6.toNat) t := by
          have := c2
          dsimp only at this
          rw [List.append_nil] at this
          exact this
        refine ⟨by omega, by omega, fun j j0 j1 => ?_⟩
        obtain ⟨i, hi⟩ := Int.eq_ofNat_of_zero_le j0
        subst hi
        have hmem : ra σ0 1058 0 (4 * x + ((i : Nat) : Int)) ∈ kidL σ0 x a6.toNat := by
          unfold kidL
          exact List.mem_map.mpr ⟨i, List.mem_range.mpr (by omega), rfl⟩
        have hr := nRs_rng hL h8 hk _ hmem
        have hs := nRs_stys hk _ hmem
        refine ⟨hr.1, d10.2.2 _ hmem, hs, ?_⟩
        obtain ⟨A, B, hAB⟩ := List.append_of_mem hmem
        rw [hAB] at hk
        obtain ⟨t1, t2, e1, k1, k2⟩ := nRs_split hk
        obtain ⟨t3, t4, e2, k3, k4⟩ := nRs_split (n1 := [ra σ0 1058 0 (4 * x + ((i : Nat) : Int))]) k2
        refine ⟨t3, k3, fun z hz => h2 z ?_⟩
        rw [e1, e2]
        exact List.mem_cons_of_mem _ (List.mem_append_right _ (List.mem_append_left _ hz))
    · obtain ⟨c1, -⟩ := h1
      exact absurd c1.2.1 (by omega)
/-- all below it is kept: it is kept, and taken off the pile -/
theorem t_keepE {Q : Int → jS → Prop} {root k b : Int} (hn : 3 ≤ n) (hH : mT σ0 g N β) (ha : acy g N β) (hf : ∀ y, 0 ≤ y → y < N → f y = cno [] (ex g N β y)) (hk0 : kcl σ0) (h00 : 0 ≤ rs σ0 1063 0) (h80 : rs σ0 1063 0 ≤ 7800) (hL : L ≤ 8400) (x0 : 8200 ≤ x) (x1 : x < L) (ht : tOK L N σ0 x) (hI : kpI L f σ0 σ) (hall : ∀ j : Int, 0 ≤ j → j < ra σ0 1057 0 x → 8200 ≤ ra σ0 1058 0 (4 * x + j) → ¬ ra σ 1109 0 (ra σ0 1058 0 (4 * x + j) - 8200) = -1) (k0 : 1 ≤ k) (k1 : k ≤ 900) (hb : b = ra σ0 1057 0 x)
    (hc : ∀ σ2, kpI L f σ0 σ2 → (∀ i : Int, ra σ2 1110 0 i = ra σ 1110 0 i) → (∀ y : Int, ¬ ra σ 1109 0 y = -1 → ¬ ra σ2 1109 0 y = -1) → ¬ ra σ2 1109 0 (x - 8200) = -1 → J n c_Model_keep (some .int) 36 [some (jo 1 0), some (ji root), some (ji (k - 1)), none, none, none, none] [] σ2 (qI Q)) : J n c_Model_keep (some .int) 55 [some (jo 1 0), some (ji root), some (ji k), some (ji x), some (ji k), some (ji b), none] [] σ (qI Q) := by
  have hI0 := hI
  obtain ⟨h1, h2, h3, h4, h5, h6, h7⟩ := hI
  have hm : mln σ := hH.1.sq h1
  have l57 := mln_at hm 1057 8420 (by decide)
  have l09 := mln_at hm 1109 220 (by decide)
  obtain ⟨u1, u2, u3⟩ := ht.kids (by omega) (by omega) x0
  have e57 : ra σ 1057 0 x = ra σ0 1057 0 x := h2.2.2.2.1 1057 (by decide) x (Or.inr ⟨x0, by omega⟩)
  have hcn := cnP_le (ra σ 1109 0) (L - 8200).toNat
  refine wp_Model_keep_55 ⟨by omega, by omega, by omega, by omega, ?_⟩
  rw [e57, if_pos (by omega), if_pos (Int.le_refl _), show k + (-1) = k - 1 by omega]
  refine ⟨⟨by omega, by omega⟩, by omega, ⟨by omega, by omega⟩, by omega, by omega, ?_⟩
  by_cases q : ra σ 1109 0 (x - 8200) = -1
  · rw [if_neg (fun w => w q)]
    refine ⟨by omega, t_keepOne (L := L) (f := f) (by omega) (hH.sq h1 (by decide)) ha h2 hk0 h3 (by omega) (by omega) (by omega) h4.1 h4.2 x0 x1 (by omega) u1 u2 (hf _ u2.1 u2.2) (fun j j0 j1 => ⟨(u3 j j0 j1).1, ?_⟩) (fun σ' q' n' r63 r64 hk' hp' hok => ⟨?_, fun s13 e13 => ?_⟩)⟩
    · rcases (u3 j j0 j1).2.2.1 with w | w
      · exact Or.inl w
      · refine Or.inr ⟨w.1, w.2, ?_⟩
        rcases h7 _ w.1 w.2 with w2 | w2
        · exact absurd w2 (hall j j0 j1 w.1)
        · exact w2
    · rw [q'.nrl 1109 0, l09]; omega
    · have f13 : sq [(1109, 0)] σ' s13 := by rw [e13]; exact (sq.rf _ σ').pwa 1109 0 _ _ (by decide)
      have n13 : ndK 8420 σ' s13 := f13.ndK (by decide)
      have e09 : ra σ' 1109 0 = ra σ 1109 0 := q'.nraf 1109 0 (by decide)
      have r13 : ra s13 1109 0 = upI (ra σ 1109 0) (x - 8200) (rs σ 1063 0) := by
        rw [e13]
        unfold wa
        rw [raf_wA, if_pos ⟨rfl, rfl⟩, e09]
      clear e13
      obtain ⟨xi, hxi⟩ := Int.eq_ofNat_of_zero_le (show 0 ≤ x - 8200 by omega)
      have hcu := cnP_up (f := ra σ 1109 0) (v := rs σ 1063 0) (by omega) (L := xi) (by rw [← hxi, q]; decide) (m := (L - 8200).toNat) (by omega)
      refine hc s13 ⟨(h1.tr (q'.mo (by decide))).tr (f13.mo (by decide)), (h2.tr n').tr n13, hk'.sq f13 (by decide), ?_, ?_, ?_, fun y y0 y1 => ?_⟩ (fun i => ?_) (fun y hy => ?_) ?_
      · rw [f13.nrs 1065 0 (by decide), f13.nrs 1063 0 (by decide)]; exact hp'
      · rw [f13.nrs 1063 0 (by decide), r13, hxi, hcu, r63]; omega
      · rw [f13.nrs 1064 0 (by decide), r64]; exact h6
      · rw [r13]
        unfold upI
        by_cases qy : y = x
        · subst qy
          rw [if_pos rfl]
          exact Or.inr (hok.K (n13.mo (by decide)))
        · rw [if_neg (by omega)]
          rcases h7 y y0 y1 with w | w
          · exact Or.inl w
          · exact Or.inr ((w.K (n'.mo (by decide))).K (n13.mo (by decide)))
      · rw [f13.nra 1110 0 _ (by decide), q'.nra 1110 0 _ (by decide)]
      · rw [r13]
        unfold upI
        by_cases qy : y = x - 8200
        · rw [if_pos qy]; omega
        · rw [if_neg qy]; exact hy
      · rw [r13]
        unfold upI
        rw [if_pos rfl]; omega
  · rw [if_pos q]
    exact hc σ hI0 (fun _ => rfl) (fun _ hy => hy) q
/-- those below that are not kept go on the pile -/
theorem t_keepB {Q : Int → jS → Prop} {root k : Int} (hH : mln σ) (h80 : rs σ0 1063 0 ≤ 8200) (hL : L ≤ 8400) (x0 : 8200 ≤ x) (x1 : x < L) (ht : tOK L N σ0 x) (hI : kpI L f σ0 σ) (k0 : 1 ≤ k) (k1 : k ≤ 890)
    (hc : ∀ (ps : List Int) σ2, ps.length ≤ 4 → sq [(1110, 0)] σ σ2 → (∀ i : Int, i < k → ra σ2 1110 0 i = ra σ 1110 0 i) → (∀ i : Nat, i < ps.length → ra σ2 1110 0 (k + ((i : Nat) : Int)) = ps.getD i 0) → (∀ y, y ∈ ps → (8200 ≤ y ∧ y < x) ∧ tOK L N σ0 y ∧ ra σ 1109 0 (y - 8200) = -1 ∧ ∃ j : Int, 0 ≤ j ∧ j < ra σ0 1057 0 x ∧ y = ra σ0 1058 0 (4 * x + j)) → (∀ j : Int, 0 ≤ j → j < ra σ0 1057 0 x → 8200 ≤ ra σ0 1058 0 (4 * x + j) → ¬ ra σ 1109 0 (ra σ0 1058 0 (4 * x + j) - 8200) = -1 ∨ ra σ0 1058 0 (4 * x + j) ∈ ps) → J n c_Model_keep (some .int) 55 [some (jo 1 0), some (ji root), some (ji (k + ((ps.length : Nat) : Int))), some (ji x), some (ji k), some (ji (ra σ0 1057 0 x)), none] [] σ2 (qI Q)) : J n c_Model_keep (some .int) 55 [some (jo 1 0), some (ji root), some (ji k), some (ji x), some (ji k), some (ji 0), none] [] σ (qI Q) := by
  obtain ⟨h1, h2, h3, h4, h5, h6, h7⟩ := hI
  have l57 := mln_at hH 1057 8420 (by decide)
  have l58 := mln_at hH 1058 33680 (by decide)
  have l09 := mln_at hH 1109 220 (by decide)
  have l10 := mln_at hH 1110 900 (by decide)
  obtain ⟨u1, u2, u3⟩ := ht.kids (by omega) (by omega) x0
  obtain ⟨b, hb⟩ := Int.eq_ofNat_of_zero_le u1.1
  have e57 : ra σ 1057 0 x = ra σ0 1057 0 x := h2.2.2.2.1 1057 (by decide) x (Or.inr ⟨x0, by omega⟩)
  have e58 : ∀ j : Int, 0 ≤ j → j < 4 → ra σ 1058 0 (4 * x + j) = ra σ0 1058 0 (4 * x + j) := fun j j0 j1 => h2.2.2.2.2.1 x j (Or.inr ⟨x0, by omega⟩) j0 j1
  have loop : ∀ (d j : Nat) (ps : List Int) (σ2 : jS), j + d = b → ps.length ≤ j → sq [(1110, 0)] σ σ2 → (∀ i : Int, i < k → ra σ2 1110 0 i = ra σ 1110 0 i) → (∀ i : Nat, i < ps.length → ra σ2 1110 0 (k + ((i : Nat) : Int)) = ps.getD i 0) → (∀ y, y ∈ ps → (8200 ≤ y ∧ y < x) ∧ tOK L N σ0 y ∧ ra σ 1109 0 (y - 8200) = -1 ∧ ∃ j : Int, 0 ≤ j ∧ j < ra σ0 1057 0 x ∧ y = ra σ0 1058 0 (4 * x + j)) → (∀ i : Int, 0 ≤ i → i < j → 8200 ≤ ra σ0 1058 0 (4 * x + i) → ¬ ra σ 1109 0 (ra σ0 1058 0 (4 * x + i) - 8200) = -1 ∨ ra σ0 1058 0 (4 * x + i) ∈ ps) → J n c_Model_keep (some .int) 55 [some (jo 1 0), some (ji root), some (ji (k + ((ps.length : Nat) : Int))), some (ji x), some (ji k), some (ji ((j : Nat) : Int)), none] [] σ2 (qI Q) := by
    intro d
    induction d with
    | zero =>
      intro j ps σ2 hj hpl q2 c1 c2 c3 c4
      have ej : ((j : Nat) : Int) = ra σ0 1057 0 x := by omega
      rw [ej] at c4 ⊢
      exact hc ps σ2 (by omega) q2 c1 c2 c3 c4
    | succ d ih =>
      intro j ps σ2 hj hpl q2 c1 c2 c3 c4
      obtain ⟨y0, y1, y2, y3⟩ := u3 ((j : Nat) : Int) (by omega) (by omega)
      refine wp_Model_keep_55 ⟨by omega, by rw [q2.nrl 1057 0, l57]; omega, by omega, by rw [q2.nrl 1057 0, l57]; omega, ?_⟩
      rw [q2.nra 1057 0 _ (by decide), e57, if_neg (by omega), q2.nrl 1058 0, l58, q2.nra 1058 0 _ (by decide), e58 _ (by omega) (by omega)]
      refine ⟨by omega, ⟨by omega, by omega⟩, ⟨by omega, by omega⟩, by omega, by omega, ?_⟩
      by_cases q8 : ra σ0 1058 0 (4 * x + ((j : Nat) : Int)) < 8200
      · rw [if_pos q8]
        refine ⟨⟨by omega, by omega⟩, ?_⟩
        rw [show ((j : Nat) : Int) + 1 = ((j + 1 : Nat) : Int) by omega]
        exact ih (j + 1) ps σ2 (by omega) (by omega) q2 c1 c2 c3 (fun i i0 i1 i2 => by
          by_cases qi : i = ((j : Nat) : Int)
          · subst qi; omega
          · exact c4 i i0 (by omega) i2)
      · rw [if_neg q8, q2.nrl 1109 0, l09, q2.nra 1109 0 _ (by decide)]
        refine ⟨by omega, ⟨by omega, by omega⟩, by omega, by omega, ?_⟩
        by_cases qa : ra σ 1109 0 (ra σ0 1058 0 (4 * x + ((j : Nat) : Int)) - 8200) = -1
        · rw [if_pos qa, q2.nrl 1110 0, l10]
          refine ⟨by omega, by omega, by omega, fun s26 e26 => ⟨⟨by omega, by omega⟩, ⟨by omega, by omega⟩, ?_⟩⟩
          have f26 : sq [(1110, 0)] σ2 s26 := by rw [e26]; exact (sq.rf _ σ2).pwa 1110 0 _ _ (by decide)
          have r26 : ∀ i : Int, ra s26 1110 0 i = if i = k + ((ps.length : Nat) : Int) then ra σ0 1058 0 (4 * x + ((j : Nat) : Int)) else ra σ2 1110 0 i := fun i => by
            rw [e26]
            unfold wa
            rw [raf_wA, if_pos ⟨rfl, rfl⟩]
            rfl
          clear e26
          have := ih (j + 1) (ps ++ [ra σ0 1058 0 (4 * x + ((j : Nat) : Int))]) s26 (by omega) (by rw [List.length_append]; show ps.length + 1 ≤ j + 1; omega) (q2.tr f26) (fun i hi => by rw [r26, if_neg (by omega)]; exact c1 i hi) (fun i hi => by
            rw [List.length_append] at hi
            have hi' : i < ps.length + 1 := hi
            rw [r26]
            by_cases qi : i = ps.length
            · subst qi
              rw [if_pos rfl, List.getD_eq_getElem?_getD, List.getElem?_append_right (Nat.le_refl _), Nat.sub_self]
              rfl
            · rw [if_neg (by omega), c2 i (by omega), List.getD_eq_getElem?_getD, List.getD_eq_getElem?_getD, List.getElem?_append_left (by omega)]) (fun y hy => by
            rcases List.mem_append.mp hy with w | w
            · exact c3 y w
            · rw [List.mem_singleton] at w
              subst w
              exact ⟨⟨by omega, y1⟩, y3, qa, ((j : Nat) : Int), by omega, by omega, rfl⟩) (fun i i0 i1 i2 => by
            by_cases qi : i = ((j : Nat) : Int)
            · subst qi; exact Or.inr (List.mem_append_right _ (List.mem_singleton.mpr rfl))
            · rcases c4 i i0 (by omega) i2 with w | w
              · exact Or.inl w
              · exact Or.inr (List.mem_append_left _ w))
          rw [List.length_append] at this
          rw [show k + ((ps.length : Nat) : Int) + 1 = k + ((ps.length + 1 : Nat) : Int) by omega, show ((j : Nat) : Int) + 1 = ((j + 1 : Nat) : Int) by omega]
          exact this
        · rw [if_neg qa]
          refine ⟨⟨by omega, by omega⟩, ?_⟩
          rw [show ((j : Nat) : Int) + 1 = ((j + 1 : Nat) : Int) by omega]
          exact ih (j + 1) ps σ2 (by omega) (by omega) q2 c1 c2 c3 (fun i i0 i1 i2 => by
            by_cases qi : i = ((j : Nat) : Int)
            · subst qi; exact Or.inl qa
            · exact c4 i i0 (by omega) i2)
  have := loop b 0 [] σ (by omega) (Nat.le_refl _) (sq.rf _ σ) (fun _ _ => rfl) (fun i hi => absurd hi (by simp)) (fun y hy => (by cases hy)) (fun i i0 i1 => absurd i1 (by omega))
  rw [show k + ((([] : List Int).length : Nat) : Int) = k by simp] at this
  exact this
end ZXa
