/-! A tree is told: the reference. -/
def d0z : zN := (0, 0, 0, 0, 0, 0, 0, none)
def knz (f : Int → List Int) (z : zN) : zN := match z with
  | (a, b, c, d, e, u, y, none) => (a, b, c, d, e, u, y, some (f y))
  | z => z
theorem knz_ar (f : Int → List Int) (z : zN) : arZ (knz f z) = arZ z := by
  rcases z with ⟨a, b, c, d, e, u, y, _ | r⟩ <;> rfl
def rwZ (z : zN) : List Int := z.2.2.2.2.2.2.2.getD []
/-- a row of the tree that is told -/
def nodeR (σ : jS) (W : List zN) (i : Nat) : Prop := ra σ 1114 0 ((i : Nat) : Int) = upT W ((i : Nat) : Int) ∧ ra σ 1115 0 ((i : Nat) : Int) = ndT W ((i : Nat) : Int) ∧ ra σ 1116 0 ((i : Nat) : Int) = (W.getD i d0z).1 ∧ ra σ 1117 0 ((i : Nat) : Int) = (W.getD i d0z).2.1 ∧ ra σ 1118 0 ((i : Nat) : Int) = (W.getD i d0z).2.2.1 ∧ ra σ 1119 0 ((i : Nat) : Int) = (W.getD i d0z).2.2.2.1 ∧ ra σ 1120 0 ((i : Nat) : Int) = (W.getD i d0z).2.2.2.2.1 ∧ ra σ 1121 0 ((i : Nat) : Int) = (W.getD i d0z).2.2.2.2.2.1 ∧ ra σ 1122 0 ((i : Nat) : Int) = (if (rwZ (W.getD i d0z)).length ≤ 100 then (((rwZ (W.getD i d0z)).length : Nat) : Int) else 101) ∧ ((rwZ (W.getD i d0z)).length ≤ 100 → ∀ j : Nat, j < (rwZ (W.getD i d0z)).length → ra σ 1123 0 (100 * ((i : Nat) : Int) + ((j : Nat) : Int)) = (rwZ (W.getD i d0z)).getD j 0) ∧ ra σ 1124 0 ((i : Nat) : Int) = dpW W ((i : Nat) : Int)
def mTr (σ : jS) (W : List zN) : Prop := rs σ 1126 0 = ((W.length : Nat) : Int) ∧ ∀ i : Nat, i < W.length → nodeR σ W i
def lgF : List (Nat × Int) := [(1122, 0), (1123, 0), (1039, 0), (1041, 0), (1042, 0), (1043, 0), (1044, 0), (1045, 0)]
def ltF : List (Nat × Int) := [(1110, 0), (1113, 0), (1114, 0), (1115, 0), (1116, 0), (1117, 0), (1118, 0), (1119, 0), (1120, 0), (1121, 0), (1122, 0), (1123, 0), (1124, 0), (1126, 0), (1130, 0), (1131, 0), (1039, 0), (1041, 0), (1042, 0), (1043, 0), (1044, 0), (1045, 0)]
section ZLt
variable {n : Nat} {σ0 σ σ1 : jS} {g : zH} {N L : Int} {β : List (Int × Int)} {f : Int → List Int} {M : zM}
/-- a node's goal is told -/
theorem t_layNodeGoal {Q : jS → Prop} {x p : Int} {rw0 : List Int} (hn : 2 ≤ n) (hH : mT σ g N β) (ha : acy g N β) (x0 : 0 ≤ x) (x1 : x < 8420) (p0 : 0 ≤ p) (p1 : p < 200)
    (hx : (8200 ≤ x ∧ 0 ≤ ra σ 1060 0 x ∧ ra σ 1060 0 x < N ∧ rw0 = cno [] (ex g N β (ra σ 1060 0 x))) ∨ (x < 8200 ∧ ra σ 1061 0 x = (if rw0.length ≤ 100 then ((rw0.length : Nat) : Int) else 101) ∧ (rw0.length ≤ 100 → 0 ≤ ra σ 1060 0 x ∧ ra σ 1060 0 x + ((rw0.length : Nat) : Int) ≤ 820000 ∧ ∀ j : Nat, j < rw0.length → ra σ 1062 0 (ra σ 1060 0 x + ((j : Nat) : Int)) = rw0.getD j 0)))
    (hq : ∀ σ', sq lgF σ σ' → (∀ j, ra σ' 1122 0 j = if j = p then (if rw0.length ≤ 100 then ((rw0.length : Nat) : Int) else 101) else ra σ 1122 0 j) → (rw0.length ≤ 100 → ∀ j : Nat, j < rw0.length → ra σ' 1123 0 (100 * p + ((j : Nat) : Int)) = rw0.getD j 0) → (∀ i, ¬ (100 * p ≤ i ∧ i < 100 * p + 100) → ra σ' 1123 0 i = ra σ 1123 0 i) → Q σ') : TrV n i_Model_layNodeGoal [jo 1 0, ji x, ji p] σ Q := by
  have hm := hH.1
  have l22 := mln_at hm 1122 200 (by decide)
  have l61 := mln_at hm 1061 8420 (by decide)
  have l60 := mln_at hm 1060 8420 (by decide)
  have l62 := mln_at hm 1062 820000 (by decide)
  have l23 := mln_at hm 1123 20000 (by decide)
  have l41 := mln_at hm 1041 101 (by decide)
  refine wp_Model_layNodeGoal ?_
  rcases hx with ⟨h1, h2, h3, h4⟩ | ⟨h1, h2, h3⟩
  · rw [if_neg (by omega), l22, l60]
    refine ⟨by omega, by omega, by omega, by omega, by omega, by omega, t_layOut (by omega) hH ha h2 h3 (fun s27 f27 r27 => ?_)⟩
    have el : rw0.length = (ex g N β (ra σ 1060 0 x)).length := by rw [h4, cno_len]
    rw [← el, f27.nrl 1122 0, l22]
    refine ⟨by omega, by omega, fun s29 e29 => ?_⟩
    have f29 : sq [(1122, 0)] s27 s29 := by rw [e29]; exact (sq.rf _ s27).pwa 1122 0 _ _ (by decide)
    have r29 : ∀ j, ra s29 1122 0 j = if j = p then (if rw0.length ≤ 100 then ((rw0.length : Nat) : Int) else 101) else ra s27 1122 0 j := fun j => by
      rw [e29]
      unfold wa
      rw [raf_wA, if_pos ⟨rfl, rfl⟩]
      rfl
    clear e29
    have f029 : sq lgF σ s29 := (f27.mo (by decide)).tr (f29.mo (by decide))
    rw [f29.nrl 1122 0, f27.nrl 1122 0, l22, r29 p, if_pos rfl]
    refine ⟨by omega, by omega, ?_⟩
    have k22 : ∀ j, ra s29 1122 0 j = if j = p then (if rw0.length ≤ 100 then ((rw0.length : Nat) : Int) else 101) else ra σ 1122 0 j := fun j => by
      rw [r29]
      split
      · rfl
      · rw [f27.nra 1122 0 _ (by decide)]
    by_cases q : rw0.length ≤ 100
    · rw [if_pos q, if_neg (by omega), f029.nrl 1041 0, f029.nrl 1123 0, l41, l23]
      obtain ⟨g1, g2, -⟩ := r27
      rw [List.take_of_length_le (by omega), ← el] at g1
      rw [List.take_of_length_le (by omega)] at g2
      rw [f29.nrs 1043 0 (by decide), g1]
      refine ⟨by omega, by omega, ⟨by omega, by omega⟩, t_copy rfl rfl (by decide) (by decide) (by omega) (by rw [f029.nrl 1041 0, l41]; omega) (by omega) (by rw [f029.nrl 1123 0, l23]; omega) (by rw [f029.nrl 1041 0, l41]; omega) (by rw [f029.nrl 1123 0, l23]; omega) (fun s37 f37 r37 => ?_)⟩
      refine hq s37 (f029.tr (f37.mo (by decide))) (fun j => by rw [f37.nra 1122 0 _ (by decide)]; exact k22 j) (fun _ j hj => ?_) (fun i hi => ?_)
      · rw [r37, if_pos (by omega), show (0 : Int) + (100 * p + ((j : Nat) : Int) - 100 * p) = ((j : Nat) : Int) by omega, f29.nra 1041 0 _ (by decide), g2 j (by omega), h4]
      · rw [r37, if_neg (by omega), f29.nra 1123 0 _ (by decide), f27.nra 1123 0 _ (by decide)]
    · rw [if_neg q, if_pos (by omega)]
      exact hq s29 f029 (fun j => by rw [k22, if_neg q]) (fun w => absurd w q) (fun i hi => by rw [f29.nra 1123 0 _ (by decide), f27.nra 1123 0 _ (by decide)])
  · rw [if_pos h1, l22, l61]
    refine ⟨by omega, by omega, by omega, by omega, by omega, by omega, by omega, fun s6 e6 => ?_⟩
    have f6 : sq [(1122, 0)] σ s6 := by rw [e6]; exact (sq.rf _ σ).pwa 1122 0 _ _ (by decide)
    have r6 : ∀ j, ra s6 1122 0 j = if j = p then (if rw0.length ≤ 100 then ((rw0.length : Nat) : Int) else 101) else ra σ 1122 0 j := fun j => by
      rw [e6]
      unfold wa
      rw [raf_wA, if_pos ⟨rfl, rfl⟩, h2]
      rfl
    clear e6
    rw [f6.nrl 1122 0, l22, r6 p, if_pos rfl]
    refine ⟨by omega, by omega, ?_⟩
    by_cases q : rw0.length ≤ 100
    · obtain ⟨h31, h32, h33⟩ := h3 q
      rw [if_pos q] at h2
      rw [if_pos q, if_neg (by omega), f6.nrl 1062 0, f6.nrl 1060 0, f6.nrl 1061 0, f6.nrl 1123 0, l62, l60, l61, l23, f6.nra 1060 0 _ (by decide), f6.nra 1061 0 _ (by decide), h2]
      refine ⟨by omega, by omega, by omega, by omega, by omega, by omega, ⟨by omega, by omega⟩, by omega, t_copy rfl rfl (by decide) (by decide) (by omega) (by rw [f6.nrl 1062 0, l62]; omega) (by omega) (by rw [f6.nrl 1123 0, l23]; omega) (by rw [f6.nrl 1062 0, l62]; omega) (by rw [f6.nrl 1123 0, l23]; omega) (fun s37 f37 r37 => ?_)⟩
      refine hq s37 ((f6.mo (by decide)).tr (f37.mo (by decide))) (fun j => by rw [f37.nra 1122 0 _ (by decide)]; exact r6 j) (fun _ j hj => ?_) (fun i hi => ?_)
      · rw [r37, if_pos (by omega), show ra σ 1060 0 x + (100 * p + ((j : Nat) : Int) - 100 * p) = ra σ 1060 0 x + ((j : Nat) : Int) by omega, f6.nra 1062 0 _ (by decide)]
        exact h33 j hj
      · rw [r37, if_neg (by omega), f6.nra 1123 0 _ (by decide)]
    · rw [if_neg q, if_pos (by omega)]
      exact hq s6 (f6.mo (by decide)) r6 (fun w => absurd w q) (fun i hi => f6.nra 1123 0 _ (by decide))
/-- the nodes below are to be told next -/
theorem t_lay223 {Q : jS → Prop} {x p : Int} {ar : Nat} {ns : List Int} {us : List (Int × Int)} (hm : mln σ) (x0 : 0 ≤ x) (x1 : x < 8420) (har : ar ≤ 4) (hns : ns.length + 4 ≤ 900) (hul : us.length = ns.length)
    (hq : ∀ σ', sq [(1110, 0), (1130, 0), (1131, 0)] σ σ' → stk (ra σ' 1110 0) (kidL σ x ar ++ ns) → stk (ra σ' 1130 0) (((List.range ar).map (fun k : Nat => (p, (k : Int))) ++ us).map Prod.fst) → stk (ra σ' 1131 0) (((List.range ar).map (fun k : Nat => (p, (k : Int))) ++ us).map Prod.snd) → J n c_Model_layTree none 28 [some (jo 1 0), none, some (ji (((kidL σ x ar ++ ns).length : Nat) : Int)), none, none, none] [] σ' (qV Q)) :
    ∀ (d : Nat) (s2 : jS), d ≤ ar → sq [(1110, 0), (1130, 0), (1131, 0)] σ s2 → stk (ra s2 1110 0) ((kidL σ x ar).drop d ++ ns) → stk (ra s2 1130 0) ((((List.range ar).map (fun k : Nat => (p, (k : Int)))).drop d ++ us).map Prod.fst) → stk (ra s2 1131 0) ((((List.range ar).map (fun k : Nat => (p, (k : Int)))).drop d ++ us).map Prod.snd) → J n c_Model_layTree none 223 [some (jo 1 0), none, some (ji ((((kidL σ x ar).drop d ++ ns).length : Nat) : Int)), some (ji x), some (ji p), some (ji (((d : Nat) : Int) - 1))] [] s2 (qV Q) := by
  have l10 := mln_at hm 1110 900 (by decide)
  have l30 := mln_at hm 1130 900 (by decide)
  have l31 := mln_at hm 1131 900 (by decide)
  have l58 := mln_at hm 1058 33680 (by decide)
  intro d
  induction d with
  | zero =>
    intro s2 hd e2 k1 k2 k3
    refine wp_Model_layTree_223 ?_
    rw [if_pos (by omega)]
    exact hq s2 e2 k1 k2 k3
  | succ d ih =>
    intro s2 hd e2 k1 k2 k3
    have kl : (kidL σ x ar).length = ar := kidL_len σ x ar
    have e1 : (kidL σ x ar).drop d = ra σ 1058 0 (4 * x + ((d : Nat) : Int)) :: (kidL σ x ar).drop (d + 1) := by
      have hlt : d < (kidL σ x ar).length := by omega
      rw [List.drop_eq_getElem_cons hlt]
      congr 1
      simp only [kidL, List.getElem_map, List.getElem_range]
    have e3 : ((List.range ar).map (fun k : Nat => (p, (k : Int)))).drop d = (p, ((d : Nat) : Int)) :: ((List.range ar).map (fun k : Nat => (p, (k : Int)))).drop (d + 1) := by
      have hlt : d < ((List.range ar).map (fun k : Nat => (p, (k : Int)))).length := by rw [List.length_map, List.length_range]; omega
      rw [List.drop_eq_getElem_cons hlt]
      congr 1
      rw [List.getElem_map, List.getElem_range]
    have hlen : ((kidL σ x ar).drop (d + 1) ++ ns).length = ar - (d + 1) + ns.length := by rw [List.length_append, List.length_drop, kl]
    have hlu : (((List.range ar).map (fun k : Nat => (p, (k : Int)))).drop (d + 1) ++ us).length = ar - (d + 1) + us.length := by rw [List.length_append, List.length_drop, List.length_map, List.length_range]
    refine wp_Model_layTree_223 ?_
    rw [if_neg (by omega), e2.nrl 1110 0, e2.nrl 1058 0, l10, l58, e2.nra 1058 0 _ (by decide), hlen]
    refine ⟨by omega, by omega, by omega, ⟨by omega, by omega⟩, ⟨by omega, by omega⟩, by omega, by omega, by omega, by omega, fun s8 e8 => ?_⟩
    have f8 : sq [(1110, 0)] s2 s8 := by rw [e8]; exact (sq.rf _ s2).pwa 1110 0 _ _ (by decide)
    have r8 : ra s8 1110 0 = upI (ra s2 1110 0) ((((kidL σ x ar).drop (d + 1) ++ ns).length : Nat) : Int) (ra σ 1058 0 (4 * x + ((d : Nat) : Int))) := by
      rw [e8]
      unfold wa
      rw [raf_wA, if_pos ⟨rfl, rfl⟩, hlen, show 4 * x + (((d + 1 : Nat) : Int) - 1) = 4 * x + ((d : Nat) : Int) by omega]
    clear e8
    rw [f8.nrl 1130 0, e2.nrl 1130 0, l30]
    refine ⟨by omega, by omega, fun s12 e12 => ?_⟩
    have f12 : sq [(1130, 0)] s8 s12 := by rw [e12]; exact (sq.rf _ s8).pwa 1130 0 _ _ (by decide)
    have r12 : ra s12 1130 0 = upI (ra s8 1130 0) (((((((List.range ar).map (fun k : Nat => (p, (k : Int)))).drop (d + 1) ++ us).map Prod.fst).length : Nat) : Int)) p := by
      rw [e12]
      unfold wa
      rw [raf_wA, if_pos ⟨rfl, rfl⟩, List.length_map, hlu, hul]
    clear e12
    rw [f12.nrl 1131 0, f8.nrl 1131 0, e2.nrl 1131 0, l31]
    refine ⟨by omega, by omega, fun s15 e15 => ?_⟩
    have f15 : sq [(1131, 0)] s12 s15 := by rw [e15]; exact (sq.rf _ s12).pwa 1131 0 _ _ (by decide)
    have r15 : ra s15 1131 0 = upI (ra s12 1131 0) (((((((List.range ar).map (fun k : Nat => (p, (k : Int)))).drop (d + 1) ++ us).map Prod.snd).length : Nat) : Int)) ((d : Nat) : Int) := by
      rw [e15]
      unfold wa
      rw [raf_wA, if_pos ⟨rfl, rfl⟩, List.length_map, hlu, hul, show ((d + 1 : Nat) : Int) - 1 = ((d : Nat) : Int) by omega]
    clear e15
    refine ⟨⟨by omega, by omega⟩, ⟨by omega, by omega⟩, ?_⟩
    have := ih s15 (by omega) (((e2.tr (f8.mo (by decide))).tr (f12.mo (by decide))).tr (f15.mo (by decide))) (by
      rw [e1, f15.nraf 1110 0 (by decide), f12.nraf 1110 0 (by decide), r8]
      exact stk_up k1) (by
      rw [e3, f15.nraf 1130 0 (by decide), r12, f8.nraf 1130 0 (by decide)]
      exact stk_up k2) (by
      rw [e3, r15, f12.nraf 1131 0 (by decide), f8.nraf 1131 0 (by decide)]
      exact stk_up k3)
    have hlen0 : ((kidL σ x ar).drop d ++ ns).length = ar - (d + 1) + ns.length + 1 := by rw [List.length_append, List.length_drop, kl]; omega
    rw [hlen0] at this
    rw [show ((ar - (d + 1) + ns.length : Nat) : Int) + 1 = ((ar - (d + 1) + ns.length + 1 : Nat) : Int) by omega, show (((d + 1 : Nat) : Int) - 1 + (-1)) = ((d : Nat) : Int) - 1 by omega]
    exact this
end ZLt
