/-! A node for what was found: the reference. -/
def nwF : List (Nat × Int) := [(1052, 0), (1053, 0), (1054, 0), (1055, 0), (1056, 0), (1057, 0), (1058, 0), (1059, 0), (1060, 0), (1061, 0), (1064, 0)]
/-- nodes are written, at n alone -/
def nwK (m : Int) (σ σ' : jS) : Prop := sq nwF σ σ' ∧ (∀ F, F ∈ ndc → ∀ i : Int, ¬ i = m → ra σ' F 0 i = ra σ F 0 i) ∧ ∀ i : Int, (i < 4 * m ∨ 4 * m + 4 ≤ i) → ra σ' 1058 0 i = ra σ 1058 0 i
section ZVa
variable {n : Nat} {σ σ1 σ2 : jS} {m : Int} {P : zP} {s : zS} {path : List (Int × Int)} {C : List Int} {t : List zI}
theorem nwK.rf (m : Int) (σ : jS) : nwK m σ σ := ⟨sq.rf _ σ, fun _ _ _ _ => rfl, fun _ _ => rfl⟩
theorem nwK.pws (h : nwK m σ σ1) (v : Int) : nwK m σ (ws σ1 1064 0 v) := ⟨h.1.pws 1064 0 _ (by decide), h.2.1, h.2.2⟩
theorem nwK.pwa {F : Nat} (h : nwK m σ σ1) (hF : F ∈ ndc) (v : Int) : nwK m σ (wa σ1 F 0 m v) := by
  have h1 : ∀ F, F ∈ ndc → nwF.contains (F, 0) = true ∧ ¬ F = 1058 := by decide
  refine ⟨h.1.pwa F 0 _ _ (h1 F hF).1, fun G hG i hi => ?_, fun i hi => ?_⟩
  · unfold wa
    rw [raf_wA]
    by_cases q : G = F ∧ (0 : Int) = 0
    · rw [if_pos q]
      unfold upI
      rw [if_neg hi, ← q.1]
      exact h.2.1 G hG i hi
    · rw [if_neg q]
      exact h.2.1 G hG i hi
  · unfold wa
    rw [raf_wA, if_neg (fun w => (h1 F hF).2 w.1.symm)]
    exact h.2.2 i hi
theorem nwK.pwk {j : Int} (h : nwK m σ σ1) (j0 : 0 ≤ j) (j1 : j < 4) (v : Int) : nwK m σ (wa σ1 1058 0 (4 * m + j) v) := by
  have h1 : ∀ F, F ∈ ndc → ¬ F = 1058 := by decide
  refine ⟨h.1.pwa 1058 0 _ _ (by decide), fun G hG i hi => ?_, fun i hi => ?_⟩
  · unfold wa
    rw [raf_wA, if_neg (fun w => h1 G hG w.1)]
    exact h.2.1 G hG i hi
  · unfold wa
    rw [raf_wA, if_pos ⟨rfl, rfl⟩]
    unfold upI
    rw [if_neg (by omega)]
    exact h.2.2 i hi
theorem nwK.tr (h : nwK m σ σ1) (h' : nwK m σ1 σ2) : nwK m σ σ2 := ⟨h.1.tr h'.1, fun F hF i hi => (h'.2.1 F hF i hi).trans (h.2.1 F hF i hi), fun i hi => (h'.2.2 i hi).trans (h.2.2 i hi)⟩
theorem nwK.ndK {L : Int} (h : nwK m σ σ1) (h1 : rs σ 1063 0 ≤ m) (h2 : m < 8200 ∨ L ≤ m) : ndK L σ σ1 := by
  obtain ⟨e, h3, h4⟩ := h
  refine ⟨by rw [e.nrs 1063 0 (by decide)]; exact Int.le_refl _, by rw [e.nrs 1065 0 (by decide)]; exact Int.le_refl _, by rw [e.nrs 1070 0 (by decide)]; exact Int.le_refl _, fun F hF i hi => h3 F hF i (by omega), fun i k hi k0 k1 => h4 _ (by omega), fun i _ => e.nra 1062 0 i (by decide), fun j _ => ⟨e.nra 1066 0 j (by decide), e.nra 1067 0 j (by decide), e.nra 1069 0 j (by decide), fun p _ => e.nra 1068 0 _ (by decide)⟩⟩
theorem t_newNode {Q : Int → jS → Prop} {g lvl cds fl x f : Int} {r : Int → Bool} (hn : 2 ≤ n) (hB : mB σ P s path) (hlv : rs σ 1064 0 < 8400) (f0 : 0 ≤ f) (f1 : f < 21) (g0 : 0 ≤ g) (g1 : g < tG P.1) (v90 : ra σ 1090 0 f = g) (v75 : ra σ 1075 0 f = lvl) (v77 : ra σ 1077 0 f = cds) (v78 : ra σ 1078 0 f = fl) (v71 : ra σ 1071 0 f = x) (hC : C = (zrg (tG P.1)).filter r) (h76 : bse (ra σ 1076 0 f) (fun c => c ∈ C)) (h79 : bse (ra σ 1079 0 f) (fun c => c ∈ bstL P.1 C)) (hk : nRs (rs σ 1064 0) σ (kfL σ 1092 f (tN P.1 g).toNat) t) (hne : ∀ m : Nat, .inr m ∈ t → ¬ memT (sM s) m = []) (ht : (expT (sM s) t).length ≤ 200)
    (hq : ∀ σ', nwK (rs σ 1064 0) σ σ' → rs σ' 1064 0 = rs σ 1064 0 + 1 → nRs (rs σ 1064 0 + 1) σ' [rs σ 1064 0] (.inl (g, lvl, cds, fl, ((C.length : Nat) - ((bstL P.1 C).length : Nat) : Int), tN P.1 g, x, none) :: t) → Q (rs σ 1064 0) σ') : TrI n i_Model_newNode [jo 1 0, ji f] σ Q := by
  have hT := hB.2.1.1
  have hgk := hT.2.2.2.2.2 g g0 g1
  have hN4 := hgk.2.2.2.1
  have hN0 := hgk.2.2.1
  have hmB := mB_mM hB
  have hL := hB.2.2.2.2.2.2.2.1
  have hG24 := hT.2.2.2.1
  have hx10 := (hB.2.1.2.2.2.2.1 g g0 g1).2.1
  have hM := hB.2.2.2.2.2.1
  have hrng := nRs_rng (by omega) (by omega) hk
  have hsty := nRs_stys hk
  generalize hm : rs σ 1064 0 = m at *
  have l52 := mln_at hB.1 1052 8420 (by decide)
  have l53 := mln_at hB.1 1053 8420 (by decide)
  have l54 := mln_at hB.1 1054 8420 (by decide)
  have l55 := mln_at hB.1 1055 8420 (by decide)
  have l56 := mln_at hB.1 1056 8420 (by decide)
  have l57 := mln_at hB.1 1057 8420 (by decide)
  have l58 := mln_at hB.1 1058 33680 (by decide)
  have l59 := mln_at hB.1 1059 8420 (by decide)
  have l60 := mln_at hB.1 1060 8420 (by decide)
  have l61 := mln_at hB.1 1061 8420 (by decide)
  have l90 := mln_at hB.1 1090 21 (by decide)
  have l75 := mln_at hB.1 1075 21 (by decide)
  have l76 := mln_at hB.1 1076 21 (by decide)
  have l77 := mln_at hB.1 1077 21 (by decide)
  have l78 := mln_at hB.1 1078 21 (by decide)
  have l79 := mln_at hB.1 1079 21 (by decide)
  have l71 := mln_at hB.1 1071 21 (by decide)
  have l92 := mln_at hB.1 1092 84 (by decide)
  have l10 := mln_at hB.1 1010 24 (by decide)
  -- untried
  have hcut := bse_cut h76 h79
  have hCC : C.filter (fun k => !(bstL P.1 C).contains k) = (zrg (tG P.1)).filter (fun k => (!(bstL P.1 C).contains k) && r k) := by
    conv => lhs; arg 2; rw [hC]
    rw [List.filter_filter]
  rw [hCC] at hcut
  obtain ⟨hbr, hbn⟩ := bits_len hT hcut
  rw [← hCC] at hbn
  have h2l := bst_two P.1 C
  have hbn2 : tbn 32 (bAnd (ra σ 1076 0 f) (bXor (ra σ 1079 0 f) (-1))) = ((C.length : Nat) - ((bstL P.1 C).length : Nat) : Int) := by omega
  -- the NEEDS
  obtain ⟨kN, hkN⟩ := Int.eq_ofNat_of_zero_le hN0
  have hkn : (tN P.1 g).toNat = kN := by omega
  rw [hkn] at hk hrng hsty
  have hsum := nAll hM hk hne
  have hnm : ¬ (m < rs σ 1063 0 ∨ (8200 ≤ m ∧ m < m)) := by omega
  have loop : ∀ (d j : Nat) (σ1 : jS), j + d = kN → nwK m σ σ1 → rs σ1 1064 0 = m + 1 → (ra σ1 1052 0 m = g ∧ ra σ1 1053 0 m = lvl ∧ ra σ1 1054 0 m = cds ∧ ra σ1 1055 0 m = fl ∧ ra σ1 1056 0 m = ((C.length : Nat) - ((bstL P.1 C).length : Nat) : Int) ∧ ra σ1 1057 0 m = tN P.1 g) → (∀ i : Nat, i < j → ra σ1 1058 0 (4 * m + (i : Nat)) = ra σ 1092 0 (4 * f + (i : Nat))) → ra σ1 1059 0 m = 1 + sumA σ (kfL σ 1092 f j) → J n c_Model_newNode (some .int) 111 [some (jo 1 0), some (ji f), some (ji m), some (ji g), some (ji ((j : Nat) : Int))] [] σ1 (qI Q) := by
    intro d
    induction d with
    | zero =>
      intro j σ1 hj hw h64 hv hkd h59
      have e1 := hw.1
      refine wp_Model_newNode_111 ⟨by omega, by rw [e1.nrl 1010 0, l10]; omega, by omega, by rw [e1.nrl 1010 0, l10]; omega, ?_⟩
      rw [e1.nra 1010 0 _ (by decide), hx10, if_pos (by omega), e1.nrl 1060 0, e1.nrl 1071 0, l60, l71, e1.nra 1071 0 _ (by decide), v71]
      refine ⟨by omega, by omega, by omega, by omega, by omega, by omega, fun s9 e9 => ?_⟩
      have w9 : nwK m σ s9 := by rw [e9]; exact hw.pwa (by decide) _
      have g9 : sq [(1060, 0), (1061, 0)] σ1 s9 := by rw [e9]; exact (sq.rf _ σ1).pwa 1060 0 _ _ (by decide)
      have r9 : ra s9 1060 0 m = x := by rw [e9]; exact wa_at _ _ _ _
      clear e9
      rw [w9.1.nrl 1061 0, l61]
      refine ⟨by omega, by omega, fun s13 e13 => ?_⟩
      have w13 : nwK m σ s13 := by rw [e13]; exact w9.pwa (by decide) _
      have g13 : sq [(1061, 0)] s9 s13 := by rw [e13]; exact (sq.rf _ s9).pwa 1061 0 _ _ (by decide)
      clear e13
      have G : sq [(1060, 0), (1061, 0)] σ1 s13 := g9.tr (g13.mo (by decide))
      obtain ⟨v1, v2, v3, v4, v5, v6⟩ := hv
      have hkk : kidL s13 m kN = kfL σ 1092 f kN := by
        unfold kidL kfL
        refine List.map_congr_left (fun i hi => ?_)
        have := List.mem_range.mp hi
        rw [G.nra 1058 0 _ (by decide)]
        exact hkd i (by omega)
      have hndk : ndK m σ s13 := w13.ndK (by omega) (Or.inr (Int.le_refl _))
      have hj' : j = kN := by omega
      subst hj'
      refine hq s13 w13 (by rw [G.nrs 1064 0 (by decide)]; exact h64) ⟨⟨by omega, ?_, ?_, ?_, ?_, ?_, ?_, ⟨hN0, hN4⟩, ?_, ⟨by omega, by omega⟩, ?_, ?_⟩, ?_⟩
      · rw [G.nra 1052 0 _ (by decide)]; exact v1
      · rw [G.nra 1053 0 _ (by decide)]; exact v2
      · rw [G.nra 1054 0 _ (by decide)]; exact v3
      · rw [G.nra 1055 0 _ (by decide)]; exact v4
      · rw [G.nra 1056 0 _ (by decide)]; exact v5
      · rw [G.nra 1057 0 _ (by decide)]; exact v6
      · show ra s13 1059 0 m = 1 + sumA s13 (kidL s13 m (tN P.1 g).toNat)
        rw [hkn, hkk, sumA_K hndk hsty, G.nra 1059 0 _ (by decide)]
        exact h59
      · show ra s13 1060 0 m = x
        rw [g13.nra 1060 0 _ (by decide)]; exact r9
      · show ∀ k, k ∈ kidL s13 m (tN P.1 g).toNat → k < m
        rw [hkn, hkk]
        intro k hk
        have := hsty k hk
        omega
      · show nRs (m + 1) s13 (kidL s13 m (tN P.1 g).toNat ++ []) t
        rw [hkn, hkk, List.append_nil]
        exact nRs_mo (by omega) (nRs_K hndk hk)
    | succ d ih =>
      intro j σ1 hj hw h64 hv hkd h59
      have e1 := hw.1
      have hmem : ra σ 1092 0 (4 * f + ((j : Nat) : Int)) ∈ kfL σ 1092 f kN := by
        unfold kfL
        exact List.mem_map.mpr ⟨j, List.mem_range.mpr (by omega), rfl⟩
      have hr := hrng _ hmem
      have hst := hsty _ hmem
      -- the sum so far
      have hpre : ∃ b, kfL σ 1092 f kN = kfL σ 1092 f (j + 1) ++ b := by
        unfold kfL
        refine ⟨((List.range' (j + 1) (kN - (j + 1))).map (fun i : Nat => ra σ 1092 0 (4 * f + (i : Nat)))), ?_⟩
        rw [← List.map_append, List.range_eq_range', List.range_eq_range']
        congr 1
        rw [show kN = (j + 1) + (kN - (j + 1)) by omega, ← List.range'_append_1]
        simp
      obtain ⟨b, hpre⟩ := hpre
      rw [hpre] at hk
      obtain ⟨t1, t2, et, k1, k2⟩ := nRs_split hk
      have hs1 := nAll hM k1 (fun m hm => hne m (by rw [et]; exact List.mem_append_left _ hm))
      have hle : (expT (sM s) t1).length ≤ (expT (sM s) t).length := by
        rw [et]
        unfold expT
        rw [List.flatMap_append, List.length_append]
        omega
      have hss : sumA σ (kfL σ 1092 f (j + 1)) = sumA σ (kfL σ 1092 f j) + ra σ 1059 0 (ra σ 1092 0 (4 * f + ((j : Nat) : Int))) := by
        rw [kfL_s, sumA_app, sumA_cons]
        unfold sumA
        simp
      refine wp_Model_newNode_111 ⟨by omega, by rw [e1.nrl 1010 0, l10]; omega, by omega, by rw [e1.nrl 1010 0, l10]; omega, ?_⟩
      rw [e1.nra 1010 0 _ (by decide), hx10, if_neg (by omega), e1.nrl 1058 0, e1.nrl 1092 0, l58, l92, e1.nra 1092 0 _ (by decide)]
      refine ⟨by omega, ⟨by omega, by omega⟩, ⟨by omega, by omega⟩, by omega, ⟨by omega, by omega⟩, ⟨by omega, by omega⟩, by omega, by omega, by omega, by omega, fun s23 e23 => ?_⟩
      have w23 : nwK m σ s23 := by rw [e23]; exact hw.pwk (by omega) (by omega) _
      have g23 : sq [(1058, 0)] σ1 s23 := by rw [e23]; exact (sq.rf _ σ1).pwa 1058 0 _ _ (by decide)
      have r23 : ∀ i : Int, ra s23 1058 0 i = if i = 4 * m + ((j : Nat) : Int) then ra σ 1092 0 (4 * f + ((j : Nat) : Int)) else ra σ1 1058 0 i := fun i => by
        rw [e23]
        unfold wa
        rw [raf_wA, if_pos ⟨rfl, rfl⟩]
        rfl
      clear e23
      have e59 : ra s23 1059 0 (ra σ 1092 0 (4 * f + ((j : Nat) : Int))) = ra σ 1059 0 (ra σ 1092 0 (4 * f + ((j : Nat) : Int))) := w23.2.1 1059 (by decide) _ (by omega)
      have e59m : ra s23 1059 0 m = 1 + sumA σ (kfL σ 1092 f j) := by rw [g23.nra 1059 0 _ (by decide)]; exact h59
      rw [w23.1.nrl 1059 0, w23.1.nrl 1092 0, l59, l92, w23.1.nra 1092 0 _ (by decide), e59, e59m]
      refine ⟨by omega, by omega, by omega, by omega, by omega, by omega, by omega, ⟨by omega, by omega⟩, fun s34 e34 => ⟨⟨by omega, by omega⟩, ?_⟩⟩
      have w34 : nwK m σ s34 := by rw [e34]; exact w23.pwa (by decide) _
      have g34 : sq [(1059, 0)] s23 s34 := by rw [e34]; exact (sq.rf _ s23).pwa 1059 0 _ _ (by decide)
      have r34 : ra s34 1059 0 m = 1 + sumA σ (kfL σ 1092 f j) + ra σ 1059 0 (ra σ 1092 0 (4 * f + ((j : Nat) : Int))) := by rw [e34]; exact wa_at _ _ _ _
      clear e34
      rw [show ((j : Nat) : Int) + 1 = ((j + 1 : Nat) : Int) by omega]
      obtain ⟨v1, v2, v3, v4, v5, v6⟩ := hv
      refine ih (j + 1) s34 (by omega) w34 (by rw [g34.nrs 1064 0 (by decide), g23.nrs 1064 0 (by decide)]; exact h64) ⟨?_, ?_, ?_, ?_, ?_, ?_⟩ (fun i hi => ?_) (by rw [r34, hss]; omega)
      · rw [g34.nra 1052 0 _ (by decide), g23.nra 1052 0 _ (by decide)]; exact v1
      · rw [g34.nra 1053 0 _ (by decide), g23.nra 1053 0 _ (by decide)]; exact v2
      · rw [g34.nra 1054 0 _ (by decide), g23.nra 1054 0 _ (by decide)]; exact v3
      · rw [g34.nra 1055 0 _ (by decide), g23.nra 1055 0 _ (by decide)]; exact v4
      · rw [g34.nra 1056 0 _ (by decide), g23.nra 1056 0 _ (by decide)]; exact v5
      · rw [g34.nra 1057 0 _ (by decide), g23.nra 1057 0 _ (by decide)]; exact v6
      · rw [g34.nra 1058 0 _ (by decide), r23]
        by_cases q : i = j
        · subst q; rw [if_pos rfl]
        · rw [if_neg (by omega)]; exact hkd i (by omega)
  refine wp_Model_newNode ⟨by omega, by rw [hm]; exact ⟨by omega, by omega⟩, fun s3 e3 => ?_⟩
  rw [hm] at e3 ⊢
  have w3 : nwK m σ s3 := by rw [e3]; exact (nwK.rf m σ).pws _
  have g3 : sq [(1064, 0)] σ s3 := by rw [e3]; exact (sq.rf _ σ).pws 1064 0 _ (by decide)
  have r3 : rs s3 1064 0 = m + 1 := by rw [e3, rs_ws, if_pos ⟨rfl, rfl⟩]
  clear e3
  rw [w3.1.nrl 1090 0, w3.1.nrl 1052 0, l90, l52, w3.1.nra 1090 0 _ (by decide), v90]
  refine ⟨by omega, by omega, by omega, by omega, by omega, by omega, fun s8 e8 => ?_⟩
  have w8 : nwK m σ s8 := by rw [e8]; exact w3.pwa (by decide) _
  have g8 : sq [(1052, 0)] s3 s8 := by rw [e8]; exact (sq.rf _ s3).pwa 1052 0 _ _ (by decide)
  have r8 : ra s8 1052 0 m = g := by rw [e8]; exact wa_at _ _ _ _
  clear e8
  rw [w8.1.nrl 1053 0, w8.1.nrl 1075 0, l53, l75, w8.1.nra 1075 0 _ (by decide), v75]
  refine ⟨by omega, by omega, by omega, by omega, by omega, fun s14 e14 => ?_⟩
  have w14 : nwK m σ s14 := by rw [e14]; exact w8.pwa (by decide) _
  have g14 : sq [(1053, 0)] s8 s14 := by rw [e14]; exact (sq.rf _ s8).pwa 1053 0 _ _ (by decide)
  have r14 : ra s14 1053 0 m = lvl := by rw [e14]; exact wa_at _ _ _ _
  clear e14
  rw [w14.1.nrl 1054 0, w14.1.nrl 1077 0, l54, l77, w14.1.nra 1077 0 _ (by decide), v77]
  refine ⟨by omega, by omega, by omega, by omega, by omega, fun s20 e20 => ?_⟩
  have w20 : nwK m σ s20 := by rw [e20]; exact w14.pwa (by decide) _
  have g20 : sq [(1054, 0)] s14 s20 := by rw [e20]; exact (sq.rf _ s14).pwa 1054 0 _ _ (by decide)
  have r20 : ra s20 1054 0 m = cds := by rw [e20]; exact wa_at _ _ _ _
  clear e20
  rw [w20.1.nrl 1055 0, w20.1.nrl 1078 0, l55, l78, w20.1.nra 1078 0 _ (by decide), v78]
  refine ⟨by omega, by omega, by omega, by omega, by omega, fun s26 e26 => ?_⟩
  have w26 : nwK m σ s26 := by rw [e26]; exact w20.pwa (by decide) _
  have g26 : sq [(1055, 0)] s20 s26 := by rw [e26]; exact (sq.rf _ s20).pwa 1055 0 _ _ (by decide)
  have r26 : ra s26 1055 0 m = fl := by rw [e26]; exact wa_at _ _ _ _
  clear e26
  rw [w26.1.nrl 1056 0, w26.1.nrl 1076 0, w26.1.nrl 1079 0, l56, l76, l79, w26.1.nra 1076 0 _ (by decide), w26.1.nra 1079 0 _ (by decide)]
  refine ⟨by omega, by omega, by omega, by omega, by omega, by omega, t_bits hbr.1 hbr.2 ?_⟩
  rw [w26.1.nrl 1056 0, l56, hbn2]
  refine ⟨by omega, by omega, fun s37 e37 => ?_⟩
  have w37 : nwK m σ s37 := by rw [e37]; exact w26.pwa (by decide) _
  have g37 : sq [(1056, 0)] s26 s37 := by rw [e37]; exact (sq.rf _ s26).pwa 1056 0 _ _ (by decide)
  have r37 : ra s37 1056 0 m = ((C.length : Nat) - ((bstL P.1 C).length : Nat) : Int) := by rw [e37]; exact wa_at _ _ _ _
  clear e37
  rw [w37.1.nrl 1057 0, w37.1.nrl 1010 0, l57, l10, w37.1.nra 1010 0 _ (by decide), hx10]
  refine ⟨by omega, by omega, by omega, by omega, by omega, by omega, fun s44 e44 => ?_⟩
  have w44 : nwK m σ s44 := by rw [e44]; exact w37.pwa (by decide) _
  have g44 : sq [(1057, 0)] s37 s44 := by rw [e44]; exact (sq.rf _ s37).pwa 1057 0 _ _ (by decide)
  have r44 : ra s44 1057 0 m = tN P.1 g := by rw [e44]; exact wa_at _ _ _ _
  clear e44
  rw [w44.1.nrl 1059 0, l59]
  refine ⟨by omega, by omega, by omega, fun s48 e48 => ?_⟩
  have w48 : nwK m σ s48 := by rw [e48]; exact w44.pwa (by decide) _
  have g48 : sq [(1059, 0)] s44 s48 := by rw [e48]; exact (sq.rf _ s44).pwa 1059 0 _ _ (by decide)
  have r48 : ra s48 1059 0 m = 1 := by rw [e48]; exact wa_at _ _ _ _
  clear e48
  refine loop kN 0 s48 (by omega) w48 ?_ ⟨?_, ?_, ?_, ?_, ?_, ?_⟩ (fun i hi => absurd hi (by omega)) ?_
  · rw [g48.nrs 1064 0 (by decide), g44.nrs 1064 0 (by decide), g37.nrs 1064 0 (by decide), g26.nrs 1064 0 (by decide), g20.nrs 1064 0 (by decide), g14.nrs 1064 0 (by decide), g8.nrs 1064 0 (by decide)]; exact r3
  · rw [g48.nra 1052 0 _ (by decide), g44.nra 1052 0 _ (by decide), g37.nra 1052 0 _ (by decide), g26.nra 1052 0 _ (by decide), g20.nra 1052 0 _ (by decide), g14.nra 1052 0 _ (by decide)]; exact r8
  · rw [g48.nra 1053 0 _ (by decide), g44.nra 1053 0 _ (by decide), g37.nra 1053 0 _ (by decide), g26.nra 1053 0 _ (by decide), g20.nra 1053 0 _ (by decide)]; exact r14
  · rw [g48.nra 1054 0 _ (by decide), g44.nra 1054 0 _ (by decide), g37.nra 1054 0 _ (by decide), g26.nra 1054 0 _ (by decide)]; exact r20
  · rw [g48.nra 1055 0 _ (by decide), g44.nra 1055 0 _ (by decide), g37.nra 1055 0 _ (by decide)]; exact r26
  · rw [g48.nra 1056 0 _ (by decide), g44.nra 1056 0 _ (by decide)]; exact r37
  · rw [g48.nra 1057 0 _ (by decide)]; exact r44
  · rw [r48]; rfl
end ZVa
