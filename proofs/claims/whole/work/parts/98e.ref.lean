/-! A given one is tried: the reference, up to its NEEDS. -/
def frC : List Nat := [1071, 1072, 1073, 1074, 1075, 1076, 1077, 1078, 1079, 1080, 1089, 1090, 1091, 1093, 1094]
/-- what is tied lies among what a node comes to, and new nodes -/
def Kc (g : zH) (N : Int) (β : List (Int × Int)) (x : Int) (g' : zH) (N' : Int) (new : List (Int × Int)) : Prop := ∀ K : Int → Prop, (∀ m, N ≤ m → K m) → eclo g N β K → K x → (∀ p, p ∈ new → K p.1 ∧ K p.2) ∧ eclo g' N' (new ++ β) K
theorem Kc.tr {g g' g2 : zH} {N N' N2 x y : Int} {β nw new : List (Int × Int)} (h : Kc g N β x g' N' nw) (h' : Kc g' N' (nw ++ β) y g2 N2 new) (hN : N ≤ N') (hy : N ≤ y) : Kc g N β x g2 N2 (new ++ nw) := fun K k1 k2 k3 => by
  obtain ⟨a1, a2⟩ := h K k1 k2 k3
  obtain ⟨b1, b2⟩ := h' K (fun m hm => k1 m (by omega)) a2 (k1 y hy)
  refine ⟨fun p hp => (List.mem_append.mp hp).elim (b1 p) (a1 p), ?_⟩
  rw [List.append_assoc]
  exact b2
/-- kids of a frame -/
def kfL (σ : jS) (F : Nat) (f : Int) (k : Nat) : List Int := (List.range k).map (fun j : Nat => ra σ F 0 (4 * f + ((j : Nat) : Int)))
/-- some NEEDS have come out -/
def nInv (P : zP) (σb σ : jS) (s s' : zS) (path β nw : List (Int × Int)) (k x : Int) (i : Nat) (nodes : List Int) (acc : List zI) : Prop :=
  (sq agF σb σ ∧ frK ((path.length : Nat) : Int) σb σ ∧ ndK (rs σb 1064 0) σb σ ∧ kpp σb σ (hN s)) ∧
  mB σ P s' (path ++ [(k, x)]) ∧ (rs σ 1098 0 = ((path.length : Nat) : Int) + 1 ∧ rs σ 1101 0 = 0) ∧
  (mT σ (hG s') (hN s') (nw ++ β) ∧ rep (hG s') (hN s') (nw ++ β) (hE s') ∧ gok s' ∧ nOk s') ∧
  (agr (hG s) (hG s') (hN s) ∧ hN s ≤ hN s' ∧ sA s ≤ sA s') ∧
  ((∀ F, F ∈ frC → ra σ F 0 ((path.length : Nat) : Int) = ra σb F 0 ((path.length : Nat) : Int)) ∧ ∀ j : Int, 0 ≤ j → j < 4 → ra σ 1092 0 (4 * ((path.length : Nat) : Int) + j) = ra σb 1092 0 (4 * ((path.length : Nat) : Int) + j)) ∧
  (ra σ 1082 0 ((path.length : Nat) : Int) = ((i : Nat) : Int) ∧ ∀ j : Nat, j < nodes.length → ra σ 1083 0 (4 * ((path.length : Nat) : Int) + ((j : Nat) : Int)) = nodes.getD j 0) ∧
  (ra σ 1084 0 ((path.length : Nat) : Int) = ((β.length : Nat) : Int) ∧ ra σ 1085 0 ((path.length : Nat) : Int) = hN s ∧ ra σ 1086 0 ((path.length : Nat) : Int) = rs σb 1034 0 ∧ ra σ 1087 0 ((path.length : Nat) : Int) = rs σb 1064 0) ∧
  (rs σ 1097 0 = rs σb 1097 0 ∧ ∀ j : Int, 0 ≤ j → j < rs σb 1097 0 → ra σ 1095 0 j = ra σb 1095 0 j ∧ ra σ 1096 0 j = ra σb 1096 0 j) ∧
  (rs σ 1034 0 ≤ rs σb 1034 0 + 60 + 120 * (sA s' - sA s) ∧ (rs σb 1064 0 ≤ rs σ 1064 0 ∧ rs σ 1064 0 ≤ rs σb 1064 0 + (sA s' - sA s))) ∧
  nRs (rs σ 1064 0) σ (kfL σ 1088 ((path.length : Nat) : Int) i) acc ∧ Kc (hG s) (hN s) β x (hG s') (hN s') nw ∧ (expT (sM s') acc).length ≤ 200 * i
section ZQa
variable {n : Nat} {σ σ1 : jS} {β : List (Int × Int)} {x k : Int} {P : zP} {s : zS} {path : List (Int × Int)}
theorem frK_up {F : Nat} {f i v : Int} (h : frK f σ σ1) (hF : F ∈ fr1) (hi : f ≤ i) : frK f σ (wa σ1 F 0 i v) := by
  refine ⟨fun G hG j hj => ?_, fun G hG j hj => ?_⟩
  · unfold wa
    rw [raf_wA]
    by_cases q : G = F ∧ (0 : Int) = 0
    · rw [if_pos q]
      unfold upI
      rw [if_neg (by omega), ← q.1]
      exact h.1 G hG j hj
    · rw [if_neg q]
      exact h.1 G hG j hj
  · have hne : ¬ G = F := by
      intro e
      rw [e] at hG
      have : ∀ F, F ∈ fr1 → ¬ F ∈ fr4 := by decide
      exact this F hF hG
    unfold wa
    rw [raf_wA, if_neg (fun w => hne w.1)]
    exact h.2 G hG j hj
theorem frK_up4 {F : Nat} {f i v : Int} (h : frK f σ σ1) (hF : F ∈ fr4) (hi : 4 * f ≤ i) : frK f σ (wa σ1 F 0 i v) := by
  refine ⟨fun G hG j hj => ?_, fun G hG j hj => ?_⟩
  · have hne : ¬ G = F := by
      intro e
      rw [e] at hG
      have : ∀ F, F ∈ fr4 → ¬ F ∈ fr1 := by decide
      exact this F hF hG
    unfold wa
    rw [raf_wA, if_neg (fun w => hne w.1)]
    exact h.1 G hG j hj
  · unfold wa
    rw [raf_wA]
    by_cases q : G = F ∧ (0 : Int) = 0
    · rw [if_pos q]
      unfold upI
      rw [if_neg (by omega), ← q.1]
      exact h.2 G hG j hj
    · rw [if_neg q]
      exact h.2 G hG j hj
set_option maxRecDepth 8000 in
theorem t_tryGiven {Q : jS → Prop} (hn : 6 ≤ n) (k0 : 0 ≤ k) (k1 : k < tG P.1) (hd : path.length < 20) (hB : mB σ P s path) (hH : mT σ (hG s) (hN s) β) (hrep : rep (hG s) (hN s) β (hE s)) (hgk : gok s) (h0 : nOk s) (hp0 : pot s ≤ 199) (x0 : 0 ≤ x) (x1 : x < hN s) (hxl : (ex (hG s) (hN s) β x).length ≤ 100) (hx : ra σ 1071 0 ((path.length : Nat) : Int) = x) (hfr : rs σ 1098 0 = ((path.length : Nat) : Int) + 1) (hco : rs σ 1101 0 = 0) (hbN : hN s + 60 ≤ 12 + 120 * sA s) (hbp : rs σ 1034 0 + 60 ≤ 12 + 120 * sA s) (hbz : (zu (hG s) (hN s) : Int) + 26 ≤ 12 + 52 * sA s)
    (hcan : ∃ ρ, solE (hG s) (hN s) (hE s) ρ ∧ ∃ θ : Int → List Int, (∀ v, Typ (θ v)) ∧ sbt θ (tR P.1 k 0) = ρ x)
    (hq : ∀ σ1 nw, nInv P σ σ1 s (spLay P.1 k x s) path β nw k x 0 (layGv P.1 k (hG s) (hN s)).2.2.2 [] → TrV (n - 1) i_Model_goOn [jo 1 0, ji ((path.length : Nat) : Int)] σ1 Q) : TrV n i_Model_tryGiven [jo 1 0, ji ((path.length : Nat) : Int), ji k] σ Q := by
  have hT : tok P.1 := hB.2.1.1
  have hm := hB.1
  obtain ⟨y1, y2, y3, y4, y5⟩ := hB.2.2.2.1
  obtain ⟨o1, o2, o3, o4, o5, o6, o7, o8, o9⟩ := h0
  have hA200 := o2
  have hpot : sTr s + sC s ≤ 30000 := by unfold pot at o7; omega
  obtain ⟨l1, l2, l3, l4, l5, l6, l7, l8⟩ := lgv_ok (T := P.1) hT k0 k1 hgk.1 hgk.2.1
  obtain ⟨fr1', fr2', fr3'⟩ := lgv_fresh (T := P.1) hT k0 k1 hgk.1 hgk.2.1
  obtain ⟨gk1, gn1⟩ := lay_gok (P := P) (s := s) (x := x) hT k0 k1 hgk x0 x1
  have l81 := mln_at hm 1081 21 (by decide)
  have l82 := mln_at hm 1082 21 (by decide)
  have l84 := mln_at hm 1084 21 (by decide)
  have l85 := mln_at hm 1085 21 (by decide)
  have l86 := mln_at hm 1086 21 (by decide)
  have l87 := mln_at hm 1087 21 (by decide)
  refine wp_Model_tryGiven ⟨by omega, by rw [y4]; exact ⟨by omega, by omega⟩, fun s3 e3 => ?_⟩
  generalize hlst : ([(1106, 0), (1081, 0), (1082, 0), (1084, 0), (1085, 0), (1086, 0), (1087, 0)] : List (Nat × Int)) = lst
  have f3 : sq lst σ s3 := by rw [e3]; exact (sq.rf _ σ).pws 1106 0 _ (by rw [← hlst]; decide)
  have K3 : frK ((path.length : Nat) : Int) σ s3 := by rw [e3]; exact ((sq.rf [(1106, 0)] σ).pws 1106 0 _ (by decide)).frK (by decide)
  rw [f3.nrl 1081 0, l81]
  refine ⟨by omega, by omega, by omega, fun s5 e5 => ?_⟩
  have f5 : sq lst σ s5 := by rw [e5]; exact f3.pwa 1081 0 _ _ (by rw [← hlst]; decide)
  have K5 : frK ((path.length : Nat) : Int) σ s5 := by rw [e5]; exact frK_up K3 (by decide) (Int.le_refl _)
  rw [f5.nrl 1082 0, l82]
  refine ⟨by omega, by omega, fun s9 e9 => ?_⟩
  have f9 : sq lst σ s9 := by rw [e9]; exact f5.pwa 1082 0 _ _ (by rw [← hlst]; decide)
  have K9 : frK ((path.length : Nat) : Int) σ s9 := by rw [e9]; exact frK_up K5 (by decide) (Int.le_refl _)
  rw [f9.nrl 1084 0, l84]
  refine ⟨by omega, by omega, fun s12 e12 => ?_⟩
  have f12 : sq lst σ s12 := by rw [e12]; exact f9.pwa 1084 0 _ _ (by rw [← hlst]; decide)
  have K12 : frK ((path.length : Nat) : Int) σ s12 := by rw [e12]; exact frK_up K9 (by decide) (Int.le_refl _)
  rw [f12.nrl 1085 0, l85]
  refine ⟨by omega, by omega, fun s15 e15 => ?_⟩
  have f15 : sq lst σ s15 := by rw [e15]; exact f12.pwa 1085 0 _ _ (by rw [← hlst]; decide)
  have K15 : frK ((path.length : Nat) : Int) σ s15 := by rw [e15]; exact frK_up K12 (by decide) (Int.le_refl _)
  rw [f15.nrl 1086 0, l86]
  refine ⟨by omega, by omega, fun s18 e18 => ?_⟩
  have f18 : sq lst σ s18 := by rw [e18]; exact f15.pwa 1086 0 _ _ (by rw [← hlst]; decide)
  have K18 : frK ((path.length : Nat) : Int) σ s18 := by rw [e18]; exact frK_up K15 (by decide) (Int.le_refl _)
  rw [f18.nrl 1087 0, l87]
  refine ⟨by omega, by omega, fun s21 e21 => ?_⟩
  have f21 : sq lst σ s21 := by rw [e21]; exact f18.pwa 1087 0 _ _ (by rw [← hlst]; decide)
  have K21 : frK ((path.length : Nat) : Int) σ s21 := by rw [e21]; exact frK_up K18 (by decide) (Int.le_refl _)
  have a06 : rs s21 1106 0 = sTr s + 1 := by rw [e21, e18, e15, e12, e9, e5, e3, ← y4]; rfl
  have a81 : ra s21 1081 0 = upI (ra σ 1081 0) ((path.length : Nat) : Int) k := by rw [e21, e18, e15, e12, e9, e5, e3]; rfl
  have a82 : ra s21 1082 0 ((path.length : Nat) : Int) = 0 := by
    rw [e21, e18, e15, e12, e9]
    show upI (ra s5 1082 0) ((path.length : Nat) : Int) 0 ((path.length : Nat) : Int) = 0
    unfold upI
    rw [if_pos rfl]
  have a84 : ra s21 1084 0 ((path.length : Nat) : Int) = ((β.length : Nat) : Int) := by
    rw [e21, e18, e15, e12]
    show upI (ra s9 1084 0) ((path.length : Nat) : Int) (rs s9 1035 0) ((path.length : Nat) : Int) = _
    unfold upI
    rw [if_pos rfl, f9.nrs 1035 0 (by rw [← hlst]; decide)]
    exact hH.2.2.2.2.2.2.2.2.2.2.2.1
  have a85 : ra s21 1085 0 ((path.length : Nat) : Int) = hN s := by
    rw [e21, e18, e15]
    show upI (ra s12 1085 0) ((path.length : Nat) : Int) (rs s12 1033 0) ((path.length : Nat) : Int) = _
    unfold upI
    rw [if_pos rfl, f12.nrs 1033 0 (by rw [← hlst]; decide)]
    exact hH.2.2.2.1
  have a86 : ra s21 1086 0 ((path.length : Nat) : Int) = rs σ 1034 0 := by
    rw [e21, e18]
    show upI (ra s15 1086 0) ((path.length : Nat) : Int) (rs s15 1034 0) ((path.length : Nat) : Int) = _
    unfold upI
    rw [if_pos rfl, f15.nrs 1034 0 (by rw [← hlst]; decide)]
  have a87 : ra s21 1087 0 ((path.length : Nat) : Int) = rs σ 1064 0 := by
    rw [e21]
    show upI (ra s18 1087 0) ((path.length : Nat) : Int) (rs s18 1064 0) ((path.length : Nat) : Int) = _
    unfold upI
    rw [if_pos rfl, f18.nrs 1064 0 (by rw [← hlst]; decide)]
  clear e3 e5 e9 e12 e15 e18 e21 f3 f5 f9 f12 f15 f18 K3 K5 K9 K12 K15 K18
  have hlp : (path ++ [(k, x)]).length = path.length + 1 := by simp
  -- the store behind the marks
  have B21 : mB s21 P (spLay P.1 k x s) (path ++ [(k, x)]) := by
    obtain ⟨z1, z2, z3, z4, z5, z6, z7, z8, z9⟩ := hB
    refine ⟨z1.sq f21, z2.sq f21 (by rw [← hlst]; decide), ?_, ?_, fun d hd' => ?_, z6.K (f21.ndK (L := 8200) (by rw [← hlst]; decide)) (Int.le_refl _) (f21.nrs 1063 0 (by rw [← hlst]; decide)) (f21.nrs 1065 0 (by rw [← hlst]; decide)) (f21.nrs 1070 0 (by rw [← hlst]; decide)), ?_, ?_, ?_⟩
    · rw [f21.nrs 1015 0 (by rw [← hlst]; decide), f21.nrs 1016 0 (by rw [← hlst]; decide), f21.nrs 1108 0 (by rw [← hlst]; decide), f21.nrs 1100 0 (by rw [← hlst]; decide)]
      exact z3
    · rw [f21.nrs 1103 0 (by rw [← hlst]; decide), f21.nrs 1104 0 (by rw [← hlst]; decide), f21.nrs 1105 0 (by rw [← hlst]; decide), f21.nrs 1107 0 (by rw [← hlst]; decide), a06]
      exact ⟨y1, y2, y3, rfl, y5⟩
    · rw [a81, f21.nra 1071 0 _ (by rw [← hlst]; decide)]
      unfold upI
      by_cases w : d < path.length
      · rw [if_neg (by omega), List.getElem_append_left w]
        exact z5 d w
      · have ed : d = path.length := by omega
        subst ed
        rw [if_pos rfl, hx]
        simp
    · rw [f21.nrs 1099 0 (by rw [← hlst]; decide)]; exact z7
    · rw [f21.nrs 1064 0 (by rw [← hlst]; decide)]; exact z8
    · rw [f21.nrs 1097 0 (by rw [← hlst]; decide)]; exact z9
  have T21 := hH.sq f21 (by rw [← hlst]; decide)
  have e1034 : rs s21 1034 0 = rs σ 1034 0 := f21.nrs 1034 0 (by rw [← hlst]; decide)
  refine ⟨by omega, t_layGiven0 (by omega) T21 B21.2.1 k0 k1 (by omega) (by omega) (by omega) (fun σ2 hl => ?_)⟩
  obtain ⟨c1, c2, c3, c4, c5, c6, c7, c8⟩ := hl
  have hgk2 := hT.2.2.2.2.2 k k0 k1
  have hr0 := hgk2.2.2.2.2 0 hgk2.2.2.1
  have hrt := lay_root c8 hr0.1
  obtain ⟨d1, d2, -, d4, d5, -, -, -, -, -, -, d12, -⟩ := c8
  rw [unu_n] at d12
  have hN4 := hgk2.2.2.2.1
  have hr12 := hr0.2.2
  have hzu2 : zu (layR (tR P.1 k 0) (hG s) (hN s) (fun _ => -1)).1 (layR (tR P.1 k 0) (hG s) (hN s) (fun _ => -1)).2.1 + unu (layR (tR P.1 k 0) (hG s) (hN s) (fun _ => -1)).2.2.1 ≤ 20000 := by omega
  obtain ⟨tn, htn⟩ := Int.eq_ofNat_of_zero_le hgk2.2.2.1
  have key := t_layNs (Q := Q) (rt := (layGv P.1 k (hG s) (hN s)).2.2.1) (T := P.1) (β := β) (d := ((path.length : Nat) : Int)) (n := n) (by omega) hT k0 k1 (by omega) (by omega) tn 0 (layR (tR P.1 k 0) (hG s) (hN s) (fun _ => -1)).1 (layR (tR P.1 k 0) (hG s) (hN s) (fun _ => -1)).2.1 (layR (tR P.1 k 0) (hG s) (hN s) (fun _ => -1)).2.2.1 σ2 (by omega) c1 c2 d5 (B21.2.1.sq c3 (by decide)) (by omega) (by omega) hzu2
  rw [show ((0 : Nat) : Int) + 1 = 1 by omega] at key
  refine key (fun σ3 m1 m2 m3 m4 m5 m6 => ?_)
  have etn : (tN P.1 k).toNat = tn := by omega
  have eg1 : (layNs P.1 k tn (0 + 1) (layR (tR P.1 k 0) (hG s) (hN s) (fun _ => -1)).1 (layR (tR P.1 k 0) (hG s) (hN s) (fun _ => -1)).2.1 (layR (tR P.1 k 0) (hG s) (hN s) (fun _ => -1)).2.2.1).1 = (layGv P.1 k (hG s) (hN s)).1 := by rw [← etn]; rfl
  have eg2 : (layNs P.1 k tn (0 + 1) (layR (tR P.1 k 0) (hG s) (hN s) (fun _ => -1)).1 (layR (tR P.1 k 0) (hG s) (hN s) (fun _ => -1)).2.1 (layR (tR P.1 k 0) (hG s) (hN s) (fun _ => -1)).2.2.1).2.1 = (layGv P.1 k (hG s) (hN s)).2.1 := by rw [← etn]; rfl
  have eg4 : (layNs P.1 k tn (0 + 1) (layR (tR P.1 k 0) (hG s) (hN s) (fun _ => -1)).1 (layR (tR P.1 k 0) (hG s) (hN s) (fun _ => -1)).2.1 (layR (tR P.1 k 0) (hG s) (hN s) (fun _ => -1)).2.2.1).2.2.2 = (layGv P.1 k (hG s) (hN s)).2.2.2 := by rw [← etn]; rfl
  rw [eg1, eg2] at m1
  rw [eg4] at m5
  -- what has changed so far
  have q23 : sq lnF s21 σ3 := (c3.mo (by decide)).tr m2
  have l10 := mln_at m1.1 1010 24 (by decide)
  have l71 := mln_at m1.1 1071 21 (by decide)
  have x3 : mTx σ3 P.1 := B21.2.1.sq q23 (by decide)
  have e10 := (x3.2.2.2.2.1 k k0 k1).2.1
  have e71 : ra σ3 1071 0 ((path.length : Nat) : Int) = x := by rw [q23.nra 1071 0 _ (by decide), f21.nra 1071 0 _ (by rw [← hlst]; decide)]; exact hx
  refine wp_Model_tryGiven_74 ⟨by omega, by omega, k0, by have := hT.2.2.2.1; omega, ?_⟩
  rw [e10, if_pos (by omega), e71]
  refine ⟨by omega, by omega, by omega, by omega, ?_⟩
  have hrep2 : rep (layGv P.1 k (hG s) (hN s)).1 (layGv P.1 k (hG s) (hN s)).2.1 β (hE s) := rep_ext l3 l1 hgk.1 l4 hgk.2.2.1 hrep
  have hxl2 : (ex (layGv P.1 k (hG s) (hN s)).1 (layGv P.1 k (hG s) (hN s)).2.1 β x).length ≤ 100 := by
    rw [ex_ext l3 l1 hgk.1 l4 hrep.1 hrep.2.1 x x0 x1]; exact hxl
  have hrl : (ex (layGv P.1 k (hG s) (hN s)).1 (layGv P.1 k (hG s) (hN s)).2.1 β (layGv P.1 k (hG s) (hN s)).2.2.1).length ≤ 12 := by
    obtain ⟨-, -, t1, t2, t3⟩ := hT.2.2.2.2.2 k k0 k1
    have hl := lok_all hgk.1 hgk.2.1 (vok_n (hG s) (hN s)) hr0.1 hr0.2.1
    have hl1 := hl.1
    have hl3 := hl.2.2.1
    have hl4 := hl.2.2.2.1
    have hl5 := hl.2.2.2.2.1
    have hrepR : rep _ _ β (hE s) := rep_ext hl3 hl1 hgk.1 hl4 hgk.2.2.1 hrep
    have hex := lay_exlen hl hr0.1 hrep.1 hrepR.1 hrepR.2.1
    obtain ⟨a1, a2, a3, a4, a5, a6, a7, a8⟩ := lns_ok (T := P.1) (k := k) (tN P.1 k).toNat 1 _ _ _ hl4 (by have := hgk.2.1; omega) hl5 (fun i' h1 h2 => t3 i' (by omega))
    have := ex_ext a3 a1 hl4 a4 hrepR.1 hrepR.2.1 _ hrt.1 hrt.2.1
    show (ex (layNs P.1 k (tN P.1 k).toNat 1 _ _ _).1 (layNs P.1 k (tN P.1 k).toNat 1 _ _ _).2.1 β ((layR (tR P.1 k 0) (hG s) (hN s) (fun _ => -1)).2.2.2.headD 0)).length ≤ 12
    rw [this, hex]
    exact hr0.2.2
  obtain ⟨R1, p1, p2, p3, p4⟩ := sml_ex l4 hrep2.1 hrep2.2.1 _ l6.1 l6.2
  obtain ⟨R2, u1, u2, u3, u4⟩ := sml_ex l4 hrep2.1 hrep2.2.1 x x0 (by omega)
  have hRl : (R1 ++ R2).length ≤ 200 := by rw [List.length_append]; omega
  refine t_isUnified (Rs := R1 ++ R2) (by omega) hRl m1 hrep2.2.1 (sml_app p2 u2) l6.1 l6.2 x0 (by omega) (List.mem_append_left _ p1) (List.mem_append_right _ u1) (fun bb new σ4 w1 w2 w3 => ?_)
  rcases w3 with ⟨e, v1, v2, v3, v4⟩ | ⟨e, v4⟩
  · have hrep3 : rep (layGv P.1 k (hG s) (hN s)).1 (layGv P.1 k (hG s) (hN s)).2.1 (new ++ β) (((layGv P.1 k (hG s) (hN s)).2.2.1, x) :: hE s) := rep_put (Rs := []) hrep2 w1.2.2.1 v1 v4
    have q34 : sq (lnF ++ uF) s21 σ4 := (q23.mo (by decide)).tr (w2.mo (by decide))
    have B4 := B21.sq q34 (by decide)
    refine hq σ4 new ⟨⟨?_, ?_, ?_, ?_⟩, B4, ⟨?_, ?_⟩, ⟨w1, hrep3, gk1, ?_⟩, ⟨l3, l1, Int.le_refl _⟩, ⟨fun F hF => ?_, fun j j0 j1 => ?_⟩, ⟨?_, fun j hj => ?_⟩, ⟨?_, ?_, ?_, ?_⟩, ⟨?_, fun j _ _ => ⟨?_, ?_⟩⟩, ⟨?_, ?_⟩, trivial, ?_, Nat.le_refl _⟩
    · exact (f21.mo (by rw [← hlst]; decide)).tr (q34.mo (by decide))
    · refine K21.tr ⟨fun F hF i _ => q34.nra F 0 i ?_, fun F hF i hi => ?_⟩
      · have : ∀ F, F ∈ fr1 → (lnF ++ uF).contains (F, 0) = false := by decide
        exact this F hF
      · have hF3 : F = 1083 ∨ F = 1088 ∨ F = 1092 := by simpa [fr4] using hF
        rcases hF3 with w | w | w
        · rw [w, w2.nra 1083 0 _ (by decide), m6 i (by omega), c3.nra 1083 0 _ (by decide)]
        · rw [w]; exact q34.nra 1088 0 i (by decide)
        · rw [w]; exact q34.nra 1092 0 i (by decide)
    · exact (f21.ndK (by rw [← hlst]; decide)).tr (q34.ndK (by decide))
    · exact (((kpp.of f21 (by rw [← hlst]; decide)).tr c4 (Int.le_refl _)).tr m3 d1).tr (kpp.of w2 (by decide)) (Int.le_refl _)
    · rw [q34.nrs 1098 0 (by decide), f21.nrs 1098 0 (by rw [← hlst]; decide)]; exact hfr
    · rw [q34.nrs 1101 0 (by decide), f21.nrs 1101 0 (by rw [← hlst]; decide)]; exact hco
    · exact (show nOk s from ⟨o1, o2, o3, o4, o5, o6, o7, o8, o9⟩).gon gn1 (by omega)
    · have h1 : ∀ F, F ∈ frC → (lnF ++ uF).contains (F, 0) = false := by decide
      have h2 : ∀ F, F ∈ frC → lst.contains (F, 0) = false := by rw [← hlst]; decide
      rw [q34.nra F 0 _ (h1 F hF), f21.nra F 0 _ (h2 F hF)]
    · rw [q34.nra 1092 0 _ (by decide), f21.nra 1092 0 _ (by rw [← hlst]; decide)]
    · rw [q34.nra 1082 0 _ (by decide), a82]; rfl
    · rw [w2.nra 1083 0 _ (by decide)]
      have := m5 j (by rw [l7, etn] at hj; exact hj)
      rw [show 4 * ((path.length : Nat) : Int) + ((0 : Nat) : Int) + ((j : Nat) : Int) = 4 * ((path.length : Nat) : Int) + ((j : Nat) : Int) by omega] at this
      exact this
    · rw [q34.nra 1084 0 _ (by decide)]; exact a84
    · rw [q34.nra 1085 0 _ (by decide)]; exact a85
    · rw [q34.nra 1086 0 _ (by decide)]; exact a86
    · rw [q34.nra 1087 0 _ (by decide)]; exact a87
    · rw [q34.nrs 1097 0 (by decide), f21.nrs 1097 0 (by rw [← hlst]; decide)]
    · rw [q34.nra 1095 0 _ (by decide), f21.nra 1095 0 _ (by rw [← hlst]; decide)]
    · rw [q34.nra 1096 0 _ (by decide), f21.nra 1096 0 _ (by rw [← hlst]; decide)]
    · rw [w2.nrs 1034 0 (by decide)]
      show _ ≤ rs σ 1034 0 + 60 + 120 * (sA s - sA s)
      omega
    · rw [q34.nrs 1064 0 (by decide), f21.nrs 1064 0 (by rw [← hlst]; decide)]; exact ⟨Int.le_refl _, by show rs σ 1064 0 ≤ rs σ 1064 0 + (sA s - sA s); omega⟩
    · intro K k1' k2' k3'
      have he := eclo_ext (N' := (layGv P.1 k (hG s) (hN s)).2.1) k2' k1' l3 fr1' hrep.1
      have hnk := (v3 K he (k1' _ fr2') k3').1
      exact ⟨hnk, eclo_app he hnk⟩
  · exfalso
    obtain ⟨ρ, w1', w2'⟩ := lgv_uni (T := P.1) hT k0 k1 hgk.1 hgk.2.1 hgk.2.2.1 x0 x1 hcan
    exact v4 ρ ((hrep2.2.2 ρ).mpr w1') w2'
end ZQa
