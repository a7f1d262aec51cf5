/-! A tree is told: the reference, as a whole. -/
def stF9 : List (Nat × Int) := [(1116, 0), (1117, 0), (1118, 0), (1119, 0), (1120, 0), (1121, 0)]
section ZLw
variable {n : Nat} {σ0 σ σ1 : jS} {g : zH} {N L : Int} {β : List (Int × Int)} {f : Int → List Int} {M : zM}
/-- a node's numbers are told -/
theorem t_chain {K : jS → Prop} {x p : Int} {s31 : jS} (hn : 1 ≤ n) (hm : mln σ) (hl : ∀ F, rl s31 F 0 = rl σ F 0) (hr : ∀ F : Nat, 1052 ≤ F → F ≤ 1057 → ∀ j, ra s31 F 0 j = ra σ F 0 j) (x0 : 0 ≤ x) (x1 : x < 8420) (p0 : 0 ≤ p) (p1 : p < 200)
    (hK : ∀ s72, sq stF9 s31 s72 → (ra s72 1116 0 p = ra σ 1052 0 x ∧ ra s72 1117 0 p = ra σ 1053 0 x ∧ ra s72 1118 0 p = ra σ 1054 0 x ∧ ra s72 1119 0 p = ra σ 1055 0 x ∧ ra s72 1120 0 p = ra σ 1056 0 x ∧ ra s72 1121 0 p = ra σ 1057 0 x) → (∀ F : Nat, ∀ j, ¬ j = p → ra s72 F 0 j = ra s31 F 0 j) → TrV (n - 1) i_Model_layNodeGoal [jo 1 0, ji x, ji p] s72 K) : 0 ≤ rl s31 1116 0 ∧ 0 ≤ rl s31 1052 0 ∧ 0 ≤ x ∧ x < rl s31 1052 0 ∧ 0 ≤ p ∧ p < rl s31 1116 0 ∧ (∀ zs37, zs37 = wa s31 1116 0 p (ra s31 1052 0 x) → 0 ≤ rl zs37 1117 0 ∧ 0 ≤ rl zs37 1053 0 ∧ 0 ≤ x ∧ x < rl zs37 1053 0 ∧ 0 ≤ p ∧ p < rl zs37 1117 0 ∧ (∀ zs44, zs44 = wa zs37 1117 0 p (ra zs37 1053 0 x) → 0 ≤ rl zs44 1118 0 ∧ 0 ≤ rl zs44 1054 0 ∧ 0 ≤ x ∧ x < rl zs44 1054 0 ∧ 0 ≤ p ∧ p < rl zs44 1118 0 ∧ (∀ zs51, zs51 = wa zs44 1118 0 p (ra zs44 1054 0 x) → 0 ≤ rl zs51 1119 0 ∧ 0 ≤ rl zs51 1055 0 ∧ 0 ≤ x ∧ x < rl zs51 1055 0 ∧ 0 ≤ p ∧ p < rl zs51 1119 0 ∧ (∀ zs58, zs58 = wa zs51 1119 0 p (ra zs51 1055 0 x) → 0 ≤ rl zs58 1120 0 ∧ 0 ≤ rl zs58 1056 0 ∧ 0 ≤ x ∧ x < rl zs58 1056 0 ∧ 0 ≤ p ∧ p < rl zs58 1120 0 ∧ (∀ zs65, zs65 = wa zs58 1120 0 p (ra zs58 1056 0 x) → 0 ≤ rl zs65 1121 0 ∧ 0 ≤ rl zs65 1057 0 ∧ 0 ≤ x ∧ x < rl zs65 1057 0 ∧ 0 ≤ p ∧ p < rl zs65 1121 0 ∧ (∀ zs72, zs72 = wa zs65 1121 0 p (ra zs65 1057 0 x) → 1 ≤ n ∧ TrV (n - 1) i_Model_layNodeGoal [jo 1 0, ji x, ji p] zs72 K)))))) := by
  have l1116 := mln_at hm 1116 200 (by decide)
  have l1117 := mln_at hm 1117 200 (by decide)
  have l1118 := mln_at hm 1118 200 (by decide)
  have l1119 := mln_at hm 1119 200 (by decide)
  have l1120 := mln_at hm 1120 200 (by decide)
  have l1121 := mln_at hm 1121 200 (by decide)
  have l1052 := mln_at hm 1052 8420 (by decide)
  have l1053 := mln_at hm 1053 8420 (by decide)
  have l1054 := mln_at hm 1054 8420 (by decide)
  have l1055 := mln_at hm 1055 8420 (by decide)
  have l1056 := mln_at hm 1056 8420 (by decide)
  have l1057 := mln_at hm 1057 8420 (by decide)
  rw [hl 1116, hl 1052, l1116, l1052, hr 1052 (by decide) (by decide) x]
  refine ⟨by omega, by omega, x0, x1, p0, by omega, fun s37 e37 => ?_⟩
  have f37 : sq [(1116, 0)] s31 s37 := by rw [e37]; exact (sq.rf _ s31).pwa 1116 0 _ _ (by decide)
  have r37 : ∀ j, ra s37 1116 0 j = if j = p then ra σ 1052 0 x else ra s31 1116 0 j := fun j => by
    rw [e37]
    unfold wa
    rw [raf_wA, if_pos ⟨rfl, rfl⟩]
    rfl
  clear e37
  have g37 : sq stF9 s31 s37 := f37.mo (by decide)
  rw [g37.nrl 1117 0, g37.nrl 1053 0, hl 1117, hl 1053, l1117, l1053, g37.nra 1053 0 _ (by decide), hr 1053 (by decide) (by decide) x]
  refine ⟨by omega, by omega, x0, x1, p0, by omega, fun s44 e44 => ?_⟩
  have f44 : sq [(1117, 0)] s37 s44 := by rw [e44]; exact (sq.rf _ s37).pwa 1117 0 _ _ (by decide)
  have r44 : ∀ j, ra s44 1117 0 j = if j = p then ra σ 1053 0 x else ra s37 1117 0 j := fun j => by
    rw [e44]
    unfold wa
    rw [raf_wA, if_pos ⟨rfl, rfl⟩]
    rfl
  clear e44
  have g44 : sq stF9 s31 s44 := g37.tr (f44.mo (by decide))
  rw [g44.nrl 1118 0, g44.nrl 1054 0, hl 1118, hl 1054, l1118, l1054, g44.nra 1054 0 _ (by decide), hr 1054 (by decide) (by decide) x]
  refine ⟨by omega, by omega, x0, x1, p0, by omega, fun s51 e51 => ?_⟩
  have f51 : sq [(1118, 0)] s44 s51 := by rw [e51]; exact (sq.rf _ s44).pwa 1118 0 _ _ (by decide)
  have r51 : ∀ j, ra s51 1118 0 j = if j = p then ra σ 1054 0 x else ra s44 1118 0 j := fun j => by
    rw [e51]
    unfold wa
    rw [raf_wA, if_pos ⟨rfl, rfl⟩]
    rfl
  clear e51
  have g51 : sq stF9 s31 s51 := g44.tr (f51.mo (by decide))
  rw [g51.nrl 1119 0, g51.nrl 1055 0, hl 1119, hl 1055, l1119, l1055, g51.nra 1055 0 _ (by decide), hr 1055 (by decide) (by decide) x]
  refine ⟨by omega, by omega, x0, x1, p0, by omega, fun s58 e58 => ?_⟩
  have f58 : sq [(1119, 0)] s51 s58 := by rw [e58]; exact (sq.rf _ s51).pwa 1119 0 _ _ (by decide)
  have r58 : ∀ j, ra s58 1119 0 j = if j = p then ra σ 1055 0 x else ra s51 1119 0 j := fun j => by
    rw [e58]
    unfold wa
    rw [raf_wA, if_pos ⟨rfl, rfl⟩]
    rfl
  clear e58
  have g58 : sq stF9 s31 s58 := g51.tr (f58.mo (by decide))
  rw [g58.nrl 1120 0, g58.nrl 1056 0, hl 1120, hl 1056, l1120, l1056, g58.nra 1056 0 _ (by decide), hr 1056 (by decide) (by decide) x]
  refine ⟨by omega, by omega, x0, x1, p0, by omega, fun s65 e65 => ?_⟩
  have f65 : sq [(1120, 0)] s58 s65 := by rw [e65]; exact (sq.rf _ s58).pwa 1120 0 _ _ (by decide)
  have r65 : ∀ j, ra s65 1120 0 j = if j = p then ra σ 1056 0 x else ra s58 1120 0 j := fun j => by
    rw [e65]
    unfold wa
    rw [raf_wA, if_pos ⟨rfl, rfl⟩]
    rfl
  clear e65
  have g65 : sq stF9 s31 s65 := g58.tr (f65.mo (by decide))
  rw [g65.nrl 1121 0, g65.nrl 1057 0, hl 1121, hl 1057, l1121, l1057, g65.nra 1057 0 _ (by decide), hr 1057 (by decide) (by decide) x]
  refine ⟨by omega, by omega, x0, x1, p0, by omega, fun s72 e72 => ?_⟩
  have f72 : sq [(1121, 0)] s65 s72 := by rw [e72]; exact (sq.rf _ s65).pwa 1121 0 _ _ (by decide)
  have r72 : ∀ j, ra s72 1121 0 j = if j = p then ra σ 1057 0 x else ra s65 1121 0 j := fun j => by
    rw [e72]
    unfold wa
    rw [raf_wA, if_pos ⟨rfl, rfl⟩]
    rfl
  clear e72
  have g72 : sq stF9 s31 s72 := g65.tr (f72.mo (by decide))

  refine ⟨hn, hK s72 g72 ⟨?_, ?_, ?_, ?_, ?_, ?_⟩ (fun F j hj => ?_)⟩
  · rw [f72.nra 1116 0 _ (by decide), f65.nra 1116 0 _ (by decide), f58.nra 1116 0 _ (by decide), f51.nra 1116 0 _ (by decide), f44.nra 1116 0 _ (by decide), r37 p, if_pos rfl]
  · rw [f72.nra 1117 0 _ (by decide), f65.nra 1117 0 _ (by decide), f58.nra 1117 0 _ (by decide), f51.nra 1117 0 _ (by decide), r44 p, if_pos rfl]
  · rw [f72.nra 1118 0 _ (by decide), f65.nra 1118 0 _ (by decide), f58.nra 1118 0 _ (by decide), r51 p, if_pos rfl]
  · rw [f72.nra 1119 0 _ (by decide), f65.nra 1119 0 _ (by decide), r58 p, if_pos rfl]
  · rw [f72.nra 1120 0 _ (by decide), r65 p, if_pos rfl]
  · rw [r72 p, if_pos rfl]
  · have one : ∀ {a b : jS} {G : Nat} {v : Int}, sq [(G, 0)] a b → (∀ j, ra b G 0 j = if j = p then v else ra a G 0 j) → ra b F 0 j = ra a F 0 j := fun {a b G v} e h => by
      by_cases q : F = G
      · rw [q, h j, if_neg hj]
      · exact e.nra F 0 j (by simp [q])
    rw [one f72 r72, one f65 r65, one f58 r58, one f51 r51, one f44 r44, one f37 r37]
theorem nodeR_keep {W : List zN} {i : Nat} (h : nodeR σ W i) (h1 : ∀ F : Nat, F ∈ ([1114, 1115, 1116, 1117, 1118, 1119, 1120, 1121, 1122, 1124] : List Nat) → ra σ1 F 0 ((i : Nat) : Int) = ra σ F 0 ((i : Nat) : Int)) (h2 : ∀ j : Int, 0 ≤ j → j < 100 → ra σ1 1123 0 (100 * ((i : Nat) : Int) + j) = ra σ 1123 0 (100 * ((i : Nat) : Int) + j)) : nodeR σ1 W i := by
  unfold nodeR
  rw [h1 1114 (by decide), h1 1115 (by decide), h1 1116 (by decide), h1 1117 (by decide), h1 1118 (by decide), h1 1119 (by decide), h1 1120 (by decide), h1 1121 (by decide), h1 1122 (by decide), h1 1124 (by decide)]
  obtain ⟨a1, a2, a3, a4, a5, a6, a7, a8, a9, a10, a11⟩ := h
  exact ⟨a1, a2, a3, a4, a5, a6, a7, a8, a9, fun q j hj => by rw [h2 _ (by omega) (by omega)]; exact a10 q j hj, a11⟩
theorem upsW_knz : ∀ {t : List zN} {p : Int} {st : List (Int × Int)}, upsW p st (t.map (knz f)) = upsW p st t := by
  intro t
  induction t with
  | nil => intro p st; rfl
  | cons z t ih =>
    intro p st
    have e : (knz f z).2.2.2.2.2.1 = z.2.2.2.2.2.1 := by rcases z with ⟨a, b, c, d, e, u, y, _ | r⟩ <;> rfl
    show st.headD (-1, -1) :: upsW (p + 1) ((List.range (knz f z).2.2.2.2.2.1.toNat).map (fun k : Nat => (p, (k : Int))) ++ st.tail) (t.map (knz f)) = _
    rw [e, ih]
    rfl
set_option maxRecDepth 8000 in
theorem t_layTree {Q : jS → Prop} {W0 W : List zN} {root : Int} (hn : 3 ≤ n) (hH : mT σ g N β) (ha : acy g N β) (hM : mMem σ M) (hL : L ≤ 8420) (hR : nRs L σ [root] (W0.map Sum.inl)) (hWW : W = W0.map (knz f)) (hW : trK W) (hf : ∀ z, z ∈ W0 → z.2.2.2.2.2.2.2 = none → 0 ≤ z.2.2.2.2.2.2.1 ∧ z.2.2.2.2.2.2.1 < N ∧ f z.2.2.2.2.2.2.1 = cno [] (ex g N β z.2.2.2.2.2.2.1))
    (hq : ∀ σ', sq ltF σ σ' → mTr σ' W → Q σ') : TrV n i_Model_layTree [jo 1 0, ji root] σ Q := by
  have hm := hH.1
  have l10 := mln_at hm 1110 900 (by decide)
  have l13 := mln_at hm 1113 200 (by decide)
  have l14 := mln_at hm 1114 200 (by decide)
  have l15 := mln_at hm 1115 200 (by decide)
  have l24 := mln_at hm 1124 200 (by decide)
  have l30 := mln_at hm 1130 900 (by decide)
  have l31 := mln_at hm 1131 900 (by decide)
  have l57 := mln_at hm 1057 8420 (by decide)
  have hW200 := hW.2.1
  have hwl : W.length = W0.length := by rw [hWW, List.length_map]
  have k63 : rs σ 1063 0 ≤ 8200 := by
    obtain ⟨-, c1, -, c2, -⟩ := hM
    omega
  have k65 : rs σ 1065 0 ≤ 820000 := by
    obtain ⟨-, -, -, c2, c3, c4, -⟩ := hM
    omega
  have loop : ∀ (rest0 : List zN) (p : Nat) (ns : List Int) (us : List (Int × Int)) (s2 : jS), p + rest0.length = W0.length → W0.drop p = rest0 → sq ltF σ s2 → rs s2 1126 0 = ((p : Nat) : Int) → nRs L σ ns (rest0.map Sum.inl) → stk (ra s2 1110 0) ns → stk (ra s2 1130 0) (us.map Prod.fst) → stk (ra s2 1131 0) (us.map Prod.snd) → us.length = ns.length → ns.length ≤ 1 + 3 * p → (upsW 0 [(-1, -1)] W0).drop p = upsW ((p : Nat) : Int) us rest0 → (∀ i : Nat, i < p → nodeR s2 W i) → J n c_Model_layTree none 28 [some (jo 1 0), none, some (ji ((ns.length : Nat) : Int)), none, none, none] [] s2 (qV Q) := by
    intro rest0
    induction rest0 with
    | nil =>
      intro p ns us s2 hp hd e2 v26 hns k1 k2 k3 hul hnl hU hrows
      rw [List.length_nil, Nat.add_zero] at hp
      cases ns with
      | cons x ns => exact absurd hns (fun w => w)
      | nil =>
        refine wp_Model_layTree_28 ?_
        rw [if_pos (show ((([] : List Int).length : Nat) : Int) ≤ 0 by decide)]
        exact hq s2 e2 ⟨by rw [v26, hwl, hp], fun i hi => hrows i (by omega)⟩
    | cons z0 rest0 ih =>
      intro p ns us s2 hp hd e2 v26 hns k1 k2 k3 hul hnl hU hrows
      cases ns with
      | nil => exact absurd hns (fun w => w)
      | cons x ns =>
        cases us with
        | nil => cases hul
        | cons u us =>
          have hrng := nRs_rng hL k63 hns x List.mem_cons_self
          obtain ⟨hN, hns2⟩ := hns
          rw [List.length_cons] at hp hul hnl
          rw [List.length_cons] at hul
          have hm2 : mln s2 := hm.sq e2
          have x0 := hrng.1
          have x1 := hrng.2
          have hp200 : p < 200 := by omega
          have hpW : p < W.length := by omega
          have hpW0 : p < W0.length := by omega
          have ez0 : W0[p] = z0 := by
            have := List.drop_eq_getElem_cons hpW0
            rw [hd] at this
            exact (List.cons.inj this).1.symm
          have hz0m : z0 ∈ W0 := by rw [← ez0]; exact List.getElem_mem _
          have ez : W.getD p d0z = knz f z0 := by
            rw [List.getD_eq_getElem?_getD, List.getElem?_eq_getElem hpW]
            show W[p] = _
            simp only [hWW, List.getElem_map, ez0]
          have hlup : p < (upsW 0 [(-1, -1)] W0).length := by rw [upsW_len]; omega
          have eup : (upsW 0 [(-1, -1)] W).getD p (-1, -1) = u := by
            rw [hWW, upsW_knz, List.getD_eq_getElem?_getD, List.getElem?_eq_getElem hlup]
            have := List.drop_eq_getElem_cons hlup
            rw [hU] at this
            exact (List.cons.inj this).1.symm
          have eu1 : upT W ((p : Nat) : Int) = u.1 := by unfold upT; rw [Int.toNat_natCast, eup]
          have eu2 : ndT W ((p : Nat) : Int) = u.2 := by unfold ndT; rw [Int.toNat_natCast, eup]
          obtain ⟨q0, q1, q2, q3, q4, q5, q6, q7, q8, q9⟩ := hN
          have ear : (W.getD p d0z).2.2.2.2.2.1 = z0.2.2.2.2.2.1 := by
            rw [ez]
            rcases z0 with ⟨a, b, c, d, e, u', y, _ | r⟩ <;> rfl
          have hx1 : ra s2 1110 0 ((((x :: ns).length : Nat) : Int) + (-1)) = x := by
            rw [List.length_cons, show (((ns.length + 1 : Nat) : Int)) + (-1) = ((ns.length : Nat) : Int) by omega]
            exact k1.1
          have hx2 : ra s2 1130 0 ((((x :: ns).length : Nat) : Int) + (-1)) = u.1 := by
            rw [List.length_cons, show (((ns.length + 1 : Nat) : Int)) + (-1) = (((us.map Prod.fst).length : Nat) : Int) by rw [List.length_map]; omega]
            exact k2.1
          have hx3 : ra s2 1131 0 ((((x :: ns).length : Nat) : Int) + (-1)) = u.2 := by
            rw [List.length_cons, show (((ns.length + 1 : Nat) : Int)) + (-1) = (((us.map Prod.snd).length : Nat) : Int) by rw [List.length_map]; omega]
            exact k3.1
          have hnn : (((x :: ns).length : Nat) : Int) = ((ns.length : Nat) : Int) + 1 := by rw [List.length_cons]; omega
          refine wp_Model_layTree_28 ?_
          rw [if_neg (by omega), e2.nrl 1110 0, l10, v26]
          refine ⟨⟨by omega, by omega⟩, by omega, by omega, by omega, by omega, ⟨by omega, by omega⟩, fun s7 e7 => ?_⟩
          rw [hx1]
          have f7 : sq [(1126, 0)] s2 s7 := by rw [e7]; exact (sq.rf _ s2).pws 1126 0 _ (by decide)
          have r7 : rs s7 1126 0 = ((p : Nat) : Int) + 1 := by rw [e7, rs_ws, if_pos ⟨rfl, rfl⟩]
          clear e7
          have L7 : ∀ F, rl s7 F 0 = rl σ F 0 := fun F => by rw [f7.nrl F 0, e2.nrl F 0]
          rw [L7 1113, l13]
          refine ⟨by omega, by omega, by omega, fun s9 e9 => ?_⟩
          have f9 : sq [(1113, 0)] s7 s9 := by rw [e9]; exact (sq.rf _ s7).pwa 1113 0 _ _ (by decide)
          clear e9
          rw [f9.nrl 1114 0, f9.nrl 1130 0, L7 1114, L7 1130, l14, l30, f9.nra 1130 0 _ (by decide), f7.nra 1130 0 _ (by decide), hx2]
          refine ⟨by omega, by omega, by omega, by omega, by omega, fun s15 e15 => ?_⟩
          have f15 : sq [(1114, 0)] s9 s15 := by rw [e15]; exact (sq.rf _ s9).pwa 1114 0 _ _ (by decide)
          have r15 : ∀ j, ra s15 1114 0 j = if j = ((p : Nat) : Int) then u.1 else ra s9 1114 0 j := fun j => by
            rw [e15]
            unfold wa
            rw [raf_wA, if_pos ⟨rfl, rfl⟩]
            rfl
          clear e15
          rw [f15.nrl 1115 0, f15.nrl 1131 0, f9.nrl 1115 0, f9.nrl 1131 0, L7 1115, L7 1131, l15, l31, f15.nra 1131 0 _ (by decide), f9.nra 1131 0 _ (by decide), f7.nra 1131 0 _ (by decide), hx3]
          refine ⟨by omega, by omega, by omega, by omega, by omega, fun s21 e21 => ?_⟩
          have f21 : sq [(1115, 0)] s15 s21 := by rw [e21]; exact (sq.rf _ s15).pwa 1115 0 _ _ (by decide)
          have r21 : ∀ j, ra s21 1115 0 j = if j = ((p : Nat) : Int) then u.2 else ra s15 1115 0 j := fun j => by
            rw [e21]
            unfold wa
            rw [raf_wA, if_pos ⟨rfl, rfl⟩]
            rfl
          clear e21
          have g21 : sq [(1126, 0), (1113, 0), (1114, 0), (1115, 0)] s2 s21 := (((f7.mo (by decide)).tr (f9.mo (by decide))).tr (f15.mo (by decide))).tr (f21.mo (by decide))
          have L21 : ∀ F, rl s21 F 0 = rl σ F 0 := fun F => by rw [g21.nrl F 0, e2.nrl F 0]
          have v14 : ra s21 1114 0 ((p : Nat) : Int) = u.1 := by rw [f21.nra 1114 0 _ (by decide), r15, if_pos rfl]
          rw [L21 1124, L21 1114, l24, l14, v14]
          refine ⟨by omega, by omega, by omega, by omega, ?_⟩
          -- behind the depth
          have rest : ∀ s31, sq [(1124, 0)] s21 s31 → (∀ j, ra s31 1124 0 j = if j = ((p : Nat) : Int) then dpW W ((p : Nat) : Int) else ra s21 1124 0 j) → ∀ s72, sq stF9 s31 s72 → (ra s72 1116 0 ((p : Nat) : Int) = ra σ 1052 0 x ∧ ra s72 1117 0 ((p : Nat) : Int) = ra σ 1053 0 x ∧ ra s72 1118 0 ((p : Nat) : Int) = ra σ 1054 0 x ∧ ra s72 1119 0 ((p : Nat) : Int) = ra σ 1055 0 x ∧ ra s72 1120 0 ((p : Nat) : Int) = ra σ 1056 0 x ∧ ra s72 1121 0 ((p : Nat) : Int) = ra σ 1057 0 x) → (∀ F : Nat, ∀ j, ¬ j = ((p : Nat) : Int) → ra s72 F 0 j = ra s31 F 0 j) → TrV (n - 1) i_Model_layNodeGoal [jo 1 0, ji x, ji ((p : Nat) : Int)] s72 (fun zs76 => 0 ≤ rl zs76 1057 0 ∧ 0 ≤ x ∧ x < rl zs76 1057 0 ∧ i32 ((ra zs76 1057 0 x) - 1) ∧ J n c_Model_layTree none 223 [some (jo 1 0), none, some (ji ((((x :: ns).length : Nat) : Int) + (-1))), some (ji x), some (ji ((p : Nat) : Int)), some (ji ((ra zs76 1057 0 x) - 1))] [] zs76 (qV Q)) := by
            intro s31 f31 r31 s72 f72 ⟨w1, w2, w3, w4, w5, w6⟩ hoth
            have e72 : sq ltF σ s72 := ((e2.tr (g21.mo (by decide))).tr (f31.mo (by decide))).tr (f72.mo (by decide))
            have T72 : mT s72 g N β := hH.sq e72 (by decide)
            refine t_layNodeGoal (rw0 := rwZ (W.getD p d0z)) (by omega) T72 ha x0 x1 (by omega) (by omega) ?_ (fun s76 f76 r76 a76 b76 => ?_)
            · rw [ez, e72.nra 1060 0 _ (by decide), e72.nra 1061 0 _ (by decide), e72.nraf 1062 0 (by decide)]
              have hfz := hf z0 hz0m
              rcases z0 with ⟨a, b, c, d, e, u', y, _ | r⟩
              · obtain ⟨c1, c2, c3⟩ := q9
                obtain ⟨d1, d2, d3⟩ := hfz rfl
                refine Or.inl ⟨c1.1, by rw [c2]; exact d1, by rw [c2]; exact d2, ?_⟩
                rw [c2]
                exact d3
              · obtain ⟨c1, c2, c3⟩ := q9
                refine Or.inr ⟨by omega, c2, fun h => ?_⟩
                obtain ⟨d1, d2, d3⟩ := c3 h
                have d2 : ra σ 1060 0 x + ((r.length : Nat) : Int) ≤ rs σ 1065 0 := d2
                exact ⟨d1, by show ra σ 1060 0 x + ((r.length : Nat) : Int) ≤ 820000; omega, d3⟩
            · have e76 : sq ltF σ s76 := e72.tr (f76.mo (by decide))
              have v57 : ra s76 1057 0 x = z0.2.2.2.2.2.1 := by rw [e76.nra 1057 0 _ (by decide)]; exact q6
              rw [e76.nrl 1057 0, l57, v57]
              refine ⟨by omega, x0, by omega, ⟨by omega, by omega⟩, ?_⟩
              have hz4 := q7
              have hnat : ((z0.2.2.2.2.2.1.toNat : Nat) : Int) = z0.2.2.2.2.2.1 := by omega
              have hkl : (kidL σ x z0.2.2.2.2.2.1.toNat).length = z0.2.2.2.2.2.1.toNat := kidL_len _ _ _
              have ekid : kidL s76 x z0.2.2.2.2.2.1.toNat = kidL σ x z0.2.2.2.2.2.1.toNat := by
                unfold kidL
                rw [e76.nraf 1058 0 (by decide)]
              have keep : ∀ F : Nat, ltF.contains (F, (0 : Int)) = true → True := fun _ _ => trivial
              have kk : sq [(1126, 0), (1113, 0), (1114, 0), (1115, 0), (1116, 0), (1117, 0), (1118, 0), (1119, 0), (1120, 0), (1121, 0), (1124, 0), (1122, 0), (1123, 0), (1039, 0), (1041, 0), (1042, 0), (1043, 0), (1044, 0), (1045, 0)] s2 s76 := (((g21.mo (by decide)).tr (f31.mo (by decide))).tr (f72.mo (by decide))).tr (f76.mo (by decide))
              have main := t_lay223 (n := n) (σ := s76) (x := x) (p := ((p : Nat) : Int)) (ar := z0.2.2.2.2.2.1.toNat) (ns := ns) (us := us) (Q := Q) (hm.sq e76) x0 x1 (by omega) (by omega) (by omega) (fun s9' f9' m1 m2 m3 => ?_) z0.2.2.2.2.2.1.toNat s76 (Nat.le_refl _) (sq.rf _ _) (by
                rw [List.drop_of_length_le (by rw [ekid, hkl]; exact Nat.le_refl _), kk.nraf 1110 0 (by decide)]
                exact k1.2) (by
                rw [List.drop_of_length_le (by rw [List.length_map, List.length_range]; exact Nat.le_refl _), kk.nraf 1130 0 (by decide)]
                exact k2.2) (by
                rw [List.drop_of_length_le (by rw [List.length_map, List.length_range]; exact Nat.le_refl _), kk.nraf 1131 0 (by decide)]
                exact k3.2)
              · rw [List.drop_of_length_le (by rw [ekid, hkl]; exact Nat.le_refl _), List.nil_append, hnat] at main
                rw [show (((x :: ns).length : Nat) : Int) + (-1) = ((ns.length : Nat) : Int) by omega]
                exact main
              · -- the next one
                rw [ekid] at m1 ⊢
                have hns3 : nRs L σ (kidL σ x z0.2.2.2.2.2.1.toNat ++ ns) (rest0.map Sum.inl) := hns2
                refine ih (p + 1) (kidL σ x z0.2.2.2.2.2.1.toNat ++ ns) ((List.range z0.2.2.2.2.2.1.toNat).map (fun k : Nat => (((p : Nat) : Int), (k : Int))) ++ us) s9' (by omega) ?_ (e76.tr (f9'.mo (by decide))) ?_ hns3 m1 m2 m3 ?_ ?_ ?_ (fun i hi => ?_)
                · have := List.drop_eq_getElem_cons hpW0
                  rw [hd] at this
                  exact (List.cons.inj this).2.symm
                · rw [f9'.nrs 1126 0 (by decide), f76.nrs 1126 0 (by decide), f72.nrs 1126 0 (by decide), f31.nrs 1126 0 (by decide), f21.nrs 1126 0 (by decide), f15.nrs 1126 0 (by decide), f9.nrs 1126 0 (by decide), r7]
                  omega
                · rw [List.length_append, List.length_append, List.length_map, List.length_range, hkl]; omega
                · rw [List.length_append, hkl]; omega
                · have := List.drop_eq_getElem_cons hlup
                  rw [hU] at this
                  exact (List.cons.inj this).2.symm
                · have base : nodeR s76 W i := by
                    by_cases qi : i = p
                    · subst qi
                      have hdp := dpW_s hW.1 hW200 (k := ((i : Nat) : Int)) (by omega) (by omega)
                      have nr : ∀ F : Nat, ([(1122, 0), (1123, 0), (1039, 0), (1041, 0), (1042, 0), (1043, 0), (1044, 0), (1045, 0)] : List (Nat × Int)).contains (F, 0) = false → ra s76 F 0 ((i : Nat) : Int) = ra s72 F 0 ((i : Nat) : Int) := fun F hF => f76.nra F 0 _ hF
                      have ek : ∀ (sel : zN → Int), True := fun _ => trivial
                      refine ⟨?_, ?_, ?_, ?_, ?_, ?_, ?_, ?_, ?_, a76, ?_⟩
                      · rw [nr 1114 (by decide), f72.nra 1114 0 _ (by decide), f31.nra 1114 0 _ (by decide), v14, eu1]
                      · rw [nr 1115 (by decide), f72.nra 1115 0 _ (by decide), f31.nra 1115 0 _ (by decide), r21, if_pos rfl, eu2]
                      · rw [nr 1116 (by decide), w1, q1, ez]
                        rcases z0 with ⟨a, b, c, d, e, u', y, _ | r⟩ <;> rfl
                      · rw [nr 1117 (by decide), w2, q2, ez]
                        rcases z0 with ⟨a, b, c, d, e, u', y, _ | r⟩ <;> rfl
                      · rw [nr 1118 (by decide), w3, q3, ez]
                        rcases z0 with ⟨a, b, c, d, e, u', y, _ | r⟩ <;> rfl
                      · rw [nr 1119 (by decide), w4, q4, ez]
                        rcases z0 with ⟨a, b, c, d, e, u', y, _ | r⟩ <;> rfl
                      · rw [nr 1120 (by decide), w5, q5, ez]
                        rcases z0 with ⟨a, b, c, d, e, u', y, _ | r⟩ <;> rfl
                      · rw [nr 1121 (by decide), w6, q6, ear]
                      · rw [r76, if_pos rfl]
                      · rw [nr 1124 (by decide), f72.nra 1124 0 _ (by decide), r31, if_pos rfl]
                    · refine nodeR_keep (hrows i (by omega)) (fun F hF => ?_) (fun j j0 j1 => ?_)
                      · have hne : ¬ ((i : Nat) : Int) = ((p : Nat) : Int) := by omega
                        have h76 : ra s76 F 0 ((i : Nat) : Int) = ra s72 F 0 ((i : Nat) : Int) := by
                          by_cases q22 : F = 1122
                          · rw [q22, r76, if_neg hne]
                          · refine f76.nra F 0 _ ?_
                            have : ∀ F, F ∈ ([1114, 1115, 1116, 1117, 1118, 1119, 1120, 1121, 1122, 1124] : List Nat) → ¬ F = 1122 → lgF.contains (F, 0) = false := by decide
                            exact this F hF q22
                        have h31' : ra s31 F 0 ((i : Nat) : Int) = ra s21 F 0 ((i : Nat) : Int) := by
                          by_cases q24 : F = 1124
                          · rw [q24, r31, if_neg hne]
                          · exact f31.nra F 0 _ (by simp [q24])
                        have h21 : ra s21 F 0 ((i : Nat) : Int) = ra s15 F 0 ((i : Nat) : Int) := by
                          by_cases q15 : F = 1115
                          · rw [q15, r21, if_neg hne]
                          · exact f21.nra F 0 _ (by simp [q15])
                        have h15' : ra s15 F 0 ((i : Nat) : Int) = ra s9 F 0 ((i : Nat) : Int) := by
                          by_cases q14 : F = 1114
                          · rw [q14, r15, if_neg hne]
                          · exact f15.nra F 0 _ (by simp [q14])
                        have hF13 : ¬ F = 1113 := by
                          have : ∀ F, F ∈ ([1114, 1115, 1116, 1117, 1118, 1119, 1120, 1121, 1122, 1124] : List Nat) → ¬ F = 1113 := by decide
                          exact this F hF
                        rw [h76, hoth F _ hne, h31', h21, h15', f9.nra F 0 _ (by simp [hF13])]
                        by_cases q26 : F = 1126
                        · have : ∀ F, F ∈ ([1114, 1115, 1116, 1117, 1118, 1119, 1120, 1121, 1122, 1124] : List Nat) → ¬ F = 1126 := by decide
                          exact absurd q26 (this F hF)
                        · exact f7.nra F 0 _ (by simp [q26])
                      · rw [b76 _ (by omega), f72.nra 1123 0 _ (by decide), f31.nra 1123 0 _ (by decide), g21.nra 1123 0 _ (by decide)]
                  refine nodeR_keep base (fun F hF => f9'.nra F 0 _ ?_) (fun j j0 j1 => f9'.nra 1123 0 _ (by decide))
                  have : ∀ F, F ∈ ([1114, 1115, 1116, 1117, 1118, 1119, 1120, 1121, 1122, 1124] : List Nat) → ([(1110, 0), (1130, 0), (1131, 0)] : List (Nat × Int)).contains (F, 0) = false := by decide
                  exact this F hF
          have r7b : ∀ F : Nat, 1052 ≤ F → F ≤ 1057 → ([(1126, 0), (1113, 0), (1114, 0), (1115, 0), (1124, 0)] : List (Nat × Int)).contains (F, 0) = false := fun F h1 h2 => by
            simp
            omega
          have r7c : ∀ F : Nat, 1052 ≤ F → F ≤ 1057 → ltF.contains (F, (0 : Int)) = false := fun F h1 h2 => by
            unfold ltF
            simp
            omega
          have hdp := dpW_s hW.1 hW200 (k := ((p : Nat) : Int)) (by omega) (by omega)
          rw [eu1] at hdp
          have hur := upT_rng hW.1 (k := ((p : Nat) : Int)) (by omega) (by omega)
          rw [eu1] at hur
          by_cases qu : u.1 = -1
          · rw [if_neg (fun w => w qu)]
            rw [if_pos qu] at hdp
            refine ⟨by omega, fun s82 e82 => ?_⟩
            have f82 : sq [(1124, 0)] s21 s82 := by rw [e82]; exact (sq.rf _ s21).pwa 1124 0 _ _ (by decide)
            have r82 : ∀ j, ra s82 1124 0 j = if j = ((p : Nat) : Int) then dpW W ((p : Nat) : Int) else ra s21 1124 0 j := fun j => by
              rw [e82, hdp]
              unfold wa
              rw [raf_wA, if_pos ⟨rfl, rfl⟩]
              rfl
            clear e82
            exact t_chain (n := n) (by omega) hm (fun F => by rw [f82.nrl F 0]; exact L21 F) (fun F h1 h2 j => by rw [((g21.mo (l' := [(1126, 0), (1113, 0), (1114, 0), (1115, 0), (1124, 0)]) (by decide)).tr (f82.mo (by decide))).nra F 0 j (r7b F h1 h2), e2.nra F 0 j (r7c F h1 h2)]) x0 x1 (by omega) (by omega) (rest s82 f82 r82)
          · rw [if_pos qu]
            rw [if_neg qu] at hdp
            have hu2 : 0 ≤ u.1 ∧ u.1 < ((p : Nat) : Int) := by omega
            have hdu : ra s21 1124 0 u.1 = dpW W u.1 := by
              rw [g21.nra 1124 0 _ (by decide)]
              have := (hrows u.1.toNat (by omega)).2.2.2.2.2.2.2.2.2.2
              rw [show ((u.1.toNat : Nat) : Int) = u.1 by omega] at this
              exact this
            have hdr := cuT_rng (upT W) 200 (upT W u.1)
            have hdr2 : 0 ≤ dpW W u.1 ∧ dpW W u.1 ≤ 200 := hdr
            rw [hdu]
            refine ⟨by omega, by omega, ⟨by omega, by omega⟩, by omega, fun s31 e31 => ?_⟩
            have f31 : sq [(1124, 0)] s21 s31 := by rw [e31]; exact (sq.rf _ s21).pwa 1124 0 _ _ (by decide)
            have r31 : ∀ j, ra s31 1124 0 j = if j = ((p : Nat) : Int) then dpW W ((p : Nat) : Int) else ra s21 1124 0 j := fun j => by
              rw [e31, hdp]
              unfold wa
              rw [raf_wA, if_pos ⟨rfl, rfl⟩]
              rfl
            clear e31
            exact t_chain (n := n) (by omega) hm (fun F => by rw [f31.nrl F 0]; exact L21 F) (fun F h1 h2 j => by rw [((g21.mo (l' := [(1126, 0), (1113, 0), (1114, 0), (1115, 0), (1124, 0)]) (by decide)).tr (f31.mo (by decide))).nra F 0 j (r7b F h1 h2), e2.nra F 0 j (r7c F h1 h2)]) x0 x1 (by omega) (by omega) (rest s31 f31 r31)
  refine wp_Model_layTree ⟨by omega, fun s2 e2 => ?_⟩
  have f2 : sq [(1126, 0)] σ s2 := by rw [e2]; exact (sq.rf _ σ).pws 1126 0 _ (by decide)
  have r2 : rs s2 1126 0 = 0 := by rw [e2, rs_ws, if_pos ⟨rfl, rfl⟩]
  clear e2
  rw [f2.nrl 1110 0, l10]
  refine ⟨by omega, by omega, fun s4 e4 => ?_⟩
  have f4 : sq [(1110, 0)] s2 s4 := by rw [e4]; exact (sq.rf _ s2).pwa 1110 0 _ _ (by decide)
  have r4 : ra s4 1110 0 0 = root := by rw [e4]; unfold wa; rw [raf_wA, if_pos ⟨rfl, rfl⟩]; rfl
  clear e4
  rw [f4.nrl 1130 0, f2.nrl 1130 0, l30]
  refine ⟨by omega, by omega, fun s7 e7 => ?_⟩
  have f7 : sq [(1130, 0)] s4 s7 := by rw [e7]; exact (sq.rf _ s4).pwa 1130 0 _ _ (by decide)
  have r7 : ra s7 1130 0 0 = -1 := by rw [e7]; unfold wa; rw [raf_wA, if_pos ⟨rfl, rfl⟩]; rfl
  clear e7
  rw [f7.nrl 1131 0, f4.nrl 1131 0, f2.nrl 1131 0, l31]
  refine ⟨by omega, by omega, fun s10 e10 => ?_⟩
  have f10 : sq [(1131, 0)] s7 s10 := by rw [e10]; exact (sq.rf _ s7).pwa 1131 0 _ _ (by decide)
  have r10 : ra s10 1131 0 0 = -1 := by rw [e10]; unfold wa; rw [raf_wA, if_pos ⟨rfl, rfl⟩]; rfl
  clear e10
  refine loop W0 0 [root] [(-1, -1)] s10 (by omega) rfl ((((f2.mo (by decide)).tr (f4.mo (by decide))).tr (f7.mo (by decide))).tr (f10.mo (by decide))) ?_ hR ⟨?_, trivial⟩ ⟨?_, trivial⟩ ⟨?_, trivial⟩ rfl (by show 1 ≤ 1 + 3 * 0; omega) rfl (fun i hi => by omega)
  · rw [f10.nrs 1126 0 (by decide), f7.nrs 1126 0 (by decide), f4.nrs 1126 0 (by decide)]; exact r2
  · show ra s10 1110 0 0 = root
    rw [f10.nra 1110 0 _ (by decide), f7.nra 1110 0 _ (by decide)]; exact r4
  · show ra s10 1130 0 0 = -1
    rw [f10.nra 1130 0 _ (by decide)]; exact r7
  · exact r10
end ZLw
