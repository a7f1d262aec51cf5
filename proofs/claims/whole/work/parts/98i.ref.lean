/-! The best ones are tried, one behind another: the reference. -/
section ZTab
variable {n : Nat} {σ0 σ σ1 : jS} {β : List (Int × Int)} {x cl cu cds lvl sc unt lv2 cd2 : Int} {P : zP} {s0 : zS} {path : List (Int × Int)} {C : List Int} {LP : jS → Prop} {ask : Int → zS → Int → zS × zQ} {R : zS × zQ × Int}
set_option maxRecDepth 8000 in
theorem t_best {nA nS : Nat} (hLP : ∀ σ, rs σ 1099 0 = -1 → 0 < rs σ 1098 0 → TrV nS i_Model_step [jo 1 0] σ LP → LP σ) (hnS : nA + 10 ≤ nS) (hask : ∀ k, 0 ≤ k → k < tG P.1 → askMC P nA LP (ask k) (path ++ [(k, x)])) (hR : ∀ k s y, gok s → 0 ≤ y → y < hN s → askR s (ask k s y) 0 0 0) (hI : ∀ k, askI (ask k)) (hT : tok P.1) (hd : path.length < 20) (x0 : 0 ≤ x) (x1 : x < hN s0) (hgs0 : gok s0) (hrep0 : rep (hG s0) (hN s0) β (hE s0)) (hxl : (ex (hG s0) (hN s0) β x).length ≤ 100) (hpath : ∀ p, p ∈ path → 0 ≤ p.2 ∧ p.2 < hN s0) (hS97 : 0 ≤ rs σ0 1097 0) (hsv : rs σ0 1097 0 ≤ 100 * ((path.length : Nat) : Int) + zu (hG s0) (hN s0)) (hbN : hN s0 + 120 ≤ 12 + 120 * sA s0) (hbp : rs σ0 1034 0 + 120 ≤ 12 + 120 * sA s0) (hbz : (zu (hG s0) (hN s0) : Int) + 52 ≤ 12 + 52 * sA s0) (hC : ∀ k, k ∈ bstL P.1 C → 0 ≤ k ∧ k < tG P.1 ∧ canB P s0 x k)
    (hEnd : ∀ (s' : zS) (fl' : Int) (one' : Option (Int × List zI × List (Int × Int))) (an' : Option Int) (σ' : jS), spBest P ask path x lv2 cd2 unt [] s' fl' one' an' = R → fInv P σ0 σ' s0 s' path β x cl cu cds lvl sc C fl' 24 one' an' → fl' ≤ 1000 → J nS c_Model_step none 67 [some (jo 1 0), some (ji ((path.length : Nat) : Int)), none] [] σ' (qV LP))
    (hErr : ¬ R.2.1.1 = 0 → ∀ σ', mErr σ0 σ' (R.1, R.2.1) → LP σ') :
    ∀ (j i : Nat) (s : zS) (fl : Int) (one : Option (Int × List zI × List (Int × Int))) (another : Option Int) (σ1 : jS), i + j = 24 → spBest P ask path x lv2 cd2 unt (ksf (bstL P.1 C) i j) s fl one another = R → fInv P σ0 σ1 s0 s path β x cl cu cds lvl sc C fl i one another → fl + ((j : Nat) : Int) ≤ 1000 → pot s + (((ksf (bstL P.1 C) i j).length : Nat) : Int) ≤ 200 → J nS c_Model_step none 25 [some (jo 1 0), some (ji ((path.length : Nat) : Int)), none] [] σ1 (qV LP) := by
  intro j
  induction j with
  | zero =>
    intro i s fl one another σ1 hij hRR hF hfl hp
    have hF0 := hF
    obtain ⟨-, jB, -, -, -, ⟨-, -, -, -, j6e, -, -⟩, -⟩ := hF
    have l80 := mln_at jB.1 1080 21 (by decide)
    refine wp_Model_step_25 ⟨by omega, by omega, by omega, by omega, ?_⟩
    rw [j6e, if_pos (by omega)]
    have e24 : i = 24 := by omega
    subst e24
    exact hEnd s fl one another σ1 hRR hF0 (by omega)
  | succ j ih =>
    intro i s fl one another σ1 hij hRR hF hfl hp
    have hF0 := hF
    obtain ⟨⟨j1, j1b, j1c, j1d⟩, jB, ⟨j3, j3b⟩, ⟨j4, j4b, j4c, j4d, j4e, j4f⟩, ⟨j5, j5b, j5c, j5d⟩, ⟨j6, j6b, j6c, j6d, j6e, j6f, j6g⟩, ⟨j7, j7b⟩, j8, j9, j10⟩ := hF
    have hG24 := hT.2.2.2.1
    have l80 := mln_at jB.1 1080 21 (by decide)
    have l79 := mln_at jB.1 1079 21 (by decide)
    have l78 := mln_at jB.1 1078 21 (by decide)
    have lp : ∀ (s' : zS) (fl' : Int) (one' : Option (Int × List zI × List (Int × Int))) (an' : Option Int) (σ' : jS), spBest P ask path x lv2 cd2 unt (ksf (bstL P.1 C) (i + 1) j) s' fl' one' an' = R → fInv P σ0 σ' s0 s' path β x cl cu cds lvl sc C fl' (i + 1) one' an' → fl' + ((j : Nat) : Int) ≤ 1000 → pot s' + (((ksf (bstL P.1 C) (i + 1) j).length : Nat) : Int) ≤ 200 → LP σ' := fun s' fl' one' an' σ' h1 h2 h3 h4 => by
      refine hLP σ' h2.2.1.2.2.2.2.2.2.1 (by have := h2.2.2.1.1; omega) (wp_Model_step ⟨by omega, by rw [h2.2.2.1.1]; exact ⟨by omega, by omega⟩, ?_⟩)
      rw [if_pos h2.2.2.1.2, h2.2.2.1.1, show ((path.length : Nat) : Int) + 1 - 1 = ((path.length : Nat) : Int) by omega]
      exact ih (i + 1) s' fl' one' an' σ' (by omega) h1 h2 h3 h4
    have hmem : tb (ra σ1 1079 0 ((path.length : Nat) : Int)) ((i : Nat) : Int) = true ↔ ((i : Nat) : Int) ∈ bstL P.1 C := j7b.2 _ (by omega) (by omega)
    refine wp_Model_step_25 ⟨by omega, by omega, by omega, by omega, ?_⟩
    rw [j6e, if_neg (by omega)]
    refine ⟨by omega, by omega, by omega, t_has (by omega) (by omega) ?_⟩
    rw [ksf_s] at hRR hp
    by_cases qi : ((i : Nat) : Int) ∈ bstL P.1 C
    · -- this one
      rw [if_pos qi] at hRR hp
      unfold has1
      rw [if_pos (hmem.mpr qi), if_pos (by decide)]
      rw [List.length_cons] at hp
      obtain ⟨k0, k1, kc⟩ := hC _ qi
      refine wp_Model_step_67 ⟨by omega, by omega, by omega, by omega, ?_⟩
      rw [j6e, if_neg (by omega)]
      refine ⟨⟨by omega, by omega⟩, fun s39 e39 => ⟨by omega, ?_⟩⟩
      have f39 : sq [(1080, 0)] σ1 s39 := by rw [e39]; exact (sq.rf _ σ1).pwa 1080 0 _ _ (by decide)
      have K39 : frK ((path.length : Nat) : Int) σ1 s39 := by rw [e39]; exact frK_up (frK.rf _ _) (by decide) (Int.le_refl _)
      have r39 : ra s39 1080 0 ((path.length : Nat) : Int) = ((i + 1 : Nat) : Int) := by
        rw [e39]
        unfold wa
        rw [raf_wA, if_pos ⟨rfl, rfl⟩]
        unfold upI
        rw [if_pos rfl]
        omega
      clear e39
      have B39 : mB s39 P s path := jB.sq f39 (by decide)
      have F39 : fInv P σ0 s39 s0 s path β x cl cu cds lvl sc C fl (i + 1) one another := fInv_up hF0 f39 (Or.inl rfl) K39 B39 rfl rfl rfl j4e r39 (by rw [f39.nra 1078 0 _ (by decide)]; exact j6d) (by omega) j10
      have w39 : ra s39 1089 0 ((path.length : Nat) : Int) ≤ ((i : Nat) : Int) := by rw [f39.nra 1089 0 _ (by decide)]; exact j6g
      generalize hk : ((i : Nat) : Int) = k at hRR k0 k1 kc qi hmem j6e j6g w39
      -- how far it has gone
      obtain ⟨g1, g2, g3, g4, g5⟩ := j4d
      have hNs : hN s + 60 ≤ 12 + 120 * sA s ∧ (zu (hG s) (hN s) : Int) + 26 ≤ 12 + 52 * sA s ∧ rs σ1 1034 0 + 60 ≤ 12 + 120 * sA s ∧ rs σ1 1097 0 ≤ 100 * (((path.length : Nat) : Int) + 1) + zu (hG s) (hN s) := by
        have hzm := zu_mono g3 g2 hgs0.2.1
        cases one with
        | none =>
          obtain ⟨o1, o2, o3, o4, o5⟩ := j9
          obtain ⟨e1, e2⟩ := g5
          rw [e1, e2]
          omega
        | some o =>
          obtain ⟨o1, o2, o3, o4, o5, o6, o7, new, o8, o9, o10, o11, o12⟩ := j9
          obtain ⟨e1, e2, e3⟩ := g5
          have hKK := o12 (kx (hG s0) (hN s0) β x) (fun m hm => Or.inl hm) (kx_clo hgs0.1 hrep0.1 hrep0.2.1) (Or.inr (fun v _ hv => hv))
          have := new_len (x := x) (new := new) hgs0.1 hrep0.1 hrep0.2.1 g3 g2 hgs0.2.1 x0 x1 o8.1 (fun p hp => (hKK.1 p hp).1)
          omega
      obtain ⟨hN1, hN2, hN3, hN4⟩ := hNs
      have hA200 := j4e.2.1
      have x1s : x < hN s := by omega
      have hx71 : ra s39 1071 0 ((path.length : Nat) : Int) = x := by rw [f39.nra 1071 0 _ (by decide)]; exact j5
      have hexs : ex (hG s) (hN s) β x = ex (hG s0) (hN s0) β x := ex_ext g3 g2 hgs0.1 g1 hrep0.1 hrep0.2.1 x x0 x1
      have T39 : mT s39 (hG s) (hN s) β := j4.sq f39 (by decide)
      have hgs : gok s := j4c
      have hcan := can_ext (x := x) (P := P) (k := k) hgs0 g1 g3 g2 g4 x1 kc
      have hpaths : ∀ p, p ∈ path → 0 ≤ p.2 ∧ p.2 < hN s := fun p hp => by have := hpath p hp; omega
      unfold spBest at hRR
      refine t_isCut (s := s) (path := path) (x := x) (by omega) T39 j4b x0 x1s (by rw [rowE_eq hgs.1 j4b x0 x1s, cno_len, hexs]; exact hxl) hx71 (fun d hd' => ?_) (by omega) (fun qc s41 f41 => ?_) (fun qc s41 f41 => ?_)
      · obtain ⟨w1, w2⟩ := B39.2.2.2.2.1 d hd'
        have := hpaths _ (List.getElem_mem hd')
        exact ⟨w1, w2, this⟩
      · -- cut
        rw [if_pos (dcd_iff.mpr qc)] at hRR
        rw [if_neg (by decide)]
        have F41 : fInv P σ0 s41 s0 s path β x cl cu cds lvl sc C fl (i + 1) one another := fInv_up F39 f41 (Or.inr (Or.inl rfl)) (f41.frK (by decide)) (B39.sq f41 (by decide)) rfl rfl rfl j4e (by rw [f41.nra 1080 0 _ (by decide)]; exact r39) (by rw [f41.nra 1078 0 _ (by decide)]; exact F39.2.2.2.2.2.1.2.2.2.1) (Nat.le_refl _) j10
        have B41 := F41.2.1
        have e105 := B41.2.2.2.1.2.2.1
        have hsC : 0 ≤ sC s ∧ sC s ≤ 30000 := by
          obtain ⟨n1, n2, n3, n4, n5, n6, n7, n8, n9⟩ := j4e
          unfold pot at n7
          omega
        rw [e105]
        refine ⟨⟨by omega, by omega⟩, fun s46 e46 => ?_⟩
        have f46 : sq [(1105, 0), (1078, 0)] s41 s46 := by rw [e46]; exact (sq.rf _ s41).pws 1105 0 _ (by decide)
        have r46 : ra s46 1078 0 ((path.length : Nat) : Int) = fl := by rw [e46]; exact F41.2.2.2.2.2.1.2.2.2.1
        have t46 : rs s46 1105 0 = sC s + 1 := by rw [e46, rs_ws, if_pos ⟨rfl, rfl⟩]
        rw [f46.nrl 1078 0, mln_at B41.1 1078 21 (by decide), r46]
        refine ⟨by omega, by omega, ⟨by omega, by omega⟩, fun s50 e50 => ?_⟩
        have f50 : sq [(1105, 0), (1078, 0)] s41 s50 := by rw [e50]; exact f46.pwa 1078 0 _ _ (by decide)
        have K46 : frK ((path.length : Nat) : Int) s41 s46 := by rw [e46]; exact ((sq.rf [(1105, 0)] s41).pws 1105 0 _ (by decide)).frK (by decide)
        have K50 : frK ((path.length : Nat) : Int) s41 s50 := by rw [e50]; exact frK_up K46 (by decide) (Int.le_refl _)
        have r50 : ra s50 1078 0 ((path.length : Nat) : Int) = fl + 1 := by
          rw [e50]
          unfold wa
          rw [raf_wA, if_pos ⟨rfl, rfl⟩]
          unfold upI
          rw [if_pos rfl]
        have t50 : rs s50 1105 0 = sC s + 1 := by rw [e50]; exact t46
        clear e46 e50
        have B50 : mB s50 P (s.1, sM s, sA s, sMt s, sC s + 1, sTr s, sD s) path := by
          obtain ⟨z1, z2, z3, ⟨z4, z4b, z4c, z4d, z4e⟩, z5, z6, z7, z8, z9⟩ := B41
          refine ⟨z1.sq f50, z2.sq f50 (by decide), ?_, ⟨?_, ?_, t50, ?_, ?_⟩, ?_, z6.K (f50.ndK (L := 8200) (by decide)) (Int.le_refl _) (f50.nrs 1063 0 (by decide)) (f50.nrs 1065 0 (by decide)) (f50.nrs 1070 0 (by decide)), ?_, ?_, ?_⟩
          · rw [f50.nrs 1015 0 (by decide), f50.nrs 1016 0 (by decide), f50.nrs 1108 0 (by decide), f50.nrs 1100 0 (by decide)]; exact z3
          · rw [f50.nrs 1103 0 (by decide)]; exact z4
          · rw [f50.nrs 1104 0 (by decide)]; exact z4b
          · rw [f50.nrs 1106 0 (by decide)]; exact z4d
          · rw [f50.nrs 1107 0 (by decide)]; exact z4e
          · rw [f50.nraf 1081 0 (by decide), f50.nraf 1071 0 (by decide)]; exact z5
          · rw [f50.nrs 1099 0 (by decide)]; exact z7
          · rw [f50.nrs 1064 0 (by decide)]; exact z8
          · rw [f50.nrs 1097 0 (by decide)]; exact z9
        have hok5 : nOk (s.1, sM s, sA s, sMt s, sC s + 1, sTr s, sD s) := by
          obtain ⟨n1, n2, n3, n4, n5, n6, n7, n8, n9⟩ := j4e
          refine ⟨n1, n2, n3, n4, by show 0 ≤ sC s + 1; omega, n6, ?_, n8, n9⟩
          show sTr s + (sC s + 1) - 144 * sA s ≤ 200
          unfold pot at hp
          omega
        refine lp (s.1, sM s, sA s, sMt s, sC s + 1, sTr s, sD s) (fl + 1) one another s50 hRR (fInv_up F41 f50 (Or.inr (Or.inr rfl)) K50 B50 rfl rfl rfl hok5 (by rw [f50.nra 1080 0 _ (by decide)]; exact F41.2.2.2.2.2.1.2.2.2.2.1) r50 (Nat.le_refl _) (by omega)) (by omega) ?_
        show sTr s + (sC s + 1) - 144 * sA s + _ ≤ 200
        unfold pot at hp
        omega
      · -- tried
        rw [if_neg (fun w => qc (dcd_iff.mp w))] at hRR
        rw [if_pos rfl]
        have F41 : fInv P σ0 s41 s0 s path β x cl cu cds lvl sc C fl (i + 1) one another := fInv_up F39 f41 (Or.inr (Or.inl rfl)) (f41.frK (by decide)) (B39.sq f41 (by decide)) rfl rfl rfl j4e (by rw [f41.nra 1080 0 _ (by decide)]; exact r39) (by rw [f41.nra 1078 0 _ (by decide)]; exact F39.2.2.2.2.2.1.2.2.2.1) (Nat.le_refl _) j10
        have w41 : ra s41 1089 0 ((path.length : Nat) : Int) ≤ ((i : Nat) : Int) := by rw [f41.nra 1089 0 _ (by decide), hk]; exact w39
        have B41 := F41.2.1
        have hx41 : ra s41 1071 0 ((path.length : Nat) : Int) = x := F41.2.2.2.2.1.1
        have T41 : mT s41 (hG s) (hN s) β := F41.2.2.2.1.1
        have e34 : rs s41 1034 0 = rs σ1 1034 0 := by rw [f41.nrs 1034 0 (by decide), f39.nrs 1034 0 (by decide)]
        have e97 : rs s41 1097 0 = rs σ1 1097 0 := by rw [f41.nrs 1097 0 (by decide), f39.nrs 1097 0 (by decide)]
        have hrs : repI s := ⟨β, j4b⟩
        have htr := try_R (P := P) (k := k) (x := x) hT (hR k) hgs k0 k1 x0 x1s
        obtain ⟨gk1, gn1⟩ := lay_gok (P := P) (s := s) (x := x) hT k0 k1 hgs x0 x1s
        obtain ⟨la1, la2, la3, la4⟩ := lay_I (P := P) (k := k) (x := x) hT hgs hrs k0 k1 x0 x1s hcan
        have hlay := la3.2.1
        have hnR := needs_R (ask := ask k) (hR k) (layGv P.1 k (hG s) (hN s)).2.2.2 (spLay P.1 k x s) [] gk1 (fun y hy => ⟨(la4 y hy).1, (la4 y hy).2.2⟩)
        have hnI := needs_I (ask := ask k) (L := hN s) (H := hN (spLay P.1 k x s)) (hR k) (hI k) (layGv P.1 k (hG s) (hN s)).2.2.2 (spLay P.1 k x s) [] la1 la2 hlay (Int.le_refl _) la4 ⟨fun m hm => (by cases hm), fun z hz => (by cases hz)⟩
        obtain ⟨ll1, ll2, ll3, ll4, ll5, ll6, ll7, ll8⟩ := lgv_ok (T := P.1) hT k0 k1 hgs.1 hgs.2.1
        have hN4 := (hT.2.2.2.2.2 k k0 k1).2.2.2.1
        generalize hRN : spNeeds (ask k) (layGv P.1 k (hG s) (hN s)).2.2.2 (spLay P.1 k x s) [] = RN at hnR hnI
        obtain ⟨rn1, rn2, rn3, rn4⟩ := hnR
        have hgonN : gon s RN.1 1 := (gn1.tr rn1).mo (by omega)
        have hokN : nOk RN.1 := j4e.gon hgonN (by omega)
        have hlv := B41.2.2.2.2.2.2.2.1
        refine t_tryGiven (s := s) (x := x) (by omega) k0 k1 hd B41 T41 j4b hgs j4e (by omega) x0 x1s (by rw [hexs]; exact hxl) hx41 F41.2.2.1.1 F41.2.2.1.2 hN1 (by omega) hN2 hcan (fun σ2 nw hI2 => ?_)
        refine t_goOn (nA := nA) (σ := s41) (s := s) (x := x) (k := k) (path := path) (β := β) (ask := ask k) (nodes := (layGv P.1 k (hG s) (hN s)).2.2.2) hLP hnS (hask k k0 k1) (hR k) hT k0 k1 hd j4e (by omega) x1s x0 hgs j4b T41 hpaths hlv (by omega) (by omega) (by rw [F41.2.2.2.2.2.1.2.2.2.1]; exact ⟨by omega, by omega⟩) rfl (by omega) (fun σ3 s3 nw3 acc n' hn' hI3 hsp => ?_) (fun h00 hnone σ3 hbk r78 r89 r91 => ?_) (fun h00 σ3 he => ?_) _ 0 (spLay P.1 k x s) [] nw σ2 _ (by rw [Nat.zero_add]) (by omega) rfl hI2 gn1 ?_ ?_ (Int.le_refl _)
        · -- it did well
          rw [hRN] at hsp
          have h1 : RN.1 = s3 := by rw [hsp]
          have h2 : RN.2.1 = 0 := by rw [hsp]
          have h3 : RN.2.2.1 = some acc := by rw [hsp]
          obtain ⟨v1, v2, v3⟩ := hnI acc h3
          rw [h1] at v1 v2 v3 hgonN hokN
          have hst : spTry P (ask k) k x s = if 200 < (expT (sM s3) acc).length + 1 then (s3, 6, none, noQ) else RN := by
            unfold spTry
            rw [hRN, h3, h1]
          have hgr := rn4 acc h3
          rw [h1] at hgr
          obtain ⟨q1, q2, q3, q4, q5, q6⟩ := hgr
          have f1 : hN (spLay P.1 k x s) = (layGv P.1 k (hG s) (hN s)).2.1 := rfl
          have f2 : hG (spLay P.1 k x s) = (layGv P.1 k (hG s) (hN s)).1 := rfl
          have f3 : sA (spLay P.1 k x s) = sA s := rfl
          rw [f1, f3] at q5
          rw [f1, f2, f3] at q6
          refine t_didWell (σ0 := σ0) (σb := s41) (s0 := s0) (s := s) (s1 := s3) (x := x) (k := k) (C := C) (i := i) (one := one) (another := another) (nw := nw3) (fl := fl) (cl := cl) (cu := cu) (cds := cds) (lvl := lvl) (sc := sc) (nodes := (layGv P.1 k (hG s) (hN s)).2.2.2) (acc := acc) (by omega) hd hT k0 k1 x0 x1 hgs0 hrep0 (by omega) hxl F41 w41 (by omega) hI3 hgonN ll7 (fun m hm => v3.1 m hm) hS97 hsv ⟨by omega, by omega⟩ (by have := hgonN.1; omega) (fun qb σ' he => ?_) (fun qb qo σ' hF' => ?_) (fun qb o qo σ' hF' => ?_)
          · rw [if_pos qb] at hst
            rw [hst, if_pos (show ¬ (6 : Int) = 0 by decide)] at hRR
            refine hErr (by rw [← hRR]; show ¬ (6 : Int) = 0; decide) σ' ?_
            rw [← hRR]
            exact he
          · rw [if_neg qb] at hst
            rw [hst, if_neg (fun w => w h2), h3, qo] at hRR
            dsimp only at hRR
            rw [h1] at hRR
            refine lp ((hG s3, hN s3, hE s), s3.2) fl (some (k, acc, hE s3)) none σ' ?_ hF' (by omega) ?_
            · have : another = none := by
                have := F41.2.2.2.2.2.2.2.2.1
                rw [qo] at this
                exact this.1
              rw [← this]
              exact hRR
            · have := hgonN.2.2.2.2.2.2.1
              show pot s3 + _ ≤ 200
              omega
          · rw [if_neg qb] at hst
            rw [hst, if_neg (fun w => w h2), h3, qo] at hRR
            dsimp only at hRR
            rw [h1] at hRR
            rw [qo] at hF'
            refine lp (spBack s s3) fl (some o) (some (another.getD k)) σ' hRR hF' (by omega) ?_
            have := hgonN.2.2.2.2.2.2.1
            show pot s3 + _ ≤ 200
            omega
        · -- it failed
          rw [hRN] at h00 hnone hbk
          have hst : spTry P (ask k) k x s = RN := by
            unfold spTry
            rw [hRN, hnone]
          rw [hst, if_neg (fun w => w h00), hnone] at hRR
          dsimp only at hRR
          refine lp (spBack s RN.1) (fl + 1) one another σ3 hRR (fInv_bk F41 hbk hgonN hokN r78 r89 r91 hT hS97) (by omega) ?_
          have := hgonN.2.2.2.2.2.2.1
          show pot RN.1 + _ ≤ 200
          omega
        · -- in another way
          rw [hRN] at h00 he
          have hst : spTry P (ask k) k x s = RN := by
            unfold spTry
            rw [hRN, rn3 h00]
          rw [hst, if_pos h00] at hRR
          refine hErr (by rw [← hRR]; exact h00) σ3 ?_
          rw [← hRR]
          obtain ⟨u1, u2⟩ := he
          exact ⟨F41.1.1.tr u1, u2⟩
        · show (layGv P.1 k (hG s) (hN s)).2.1 ≤ 12 + 120 * sA s
          omega
        · show (zu (layGv P.1 k (hG s) (hN s)).1 (layGv P.1 k (hG s) (hN s)).2.1 : Int) ≤ 12 + 52 * sA s
          omega
    · -- not this one
      rw [if_neg qi] at hRR hp
      unfold has1
      rw [if_neg (fun w => qi (hmem.mp w)), if_neg (by decide), j6e]
      refine ⟨by omega, by omega, ⟨by omega, by omega⟩, fun s13 e13 => ?_⟩
      have f13 : sq [(1080, 0)] σ1 s13 := by rw [e13]; exact (sq.rf _ σ1).pwa 1080 0 _ _ (by decide)
      have K13 : frK ((path.length : Nat) : Int) σ1 s13 := by rw [e13]; exact frK_up (frK.rf _ _) (by decide) (Int.le_refl _)
      have r13 : ra s13 1080 0 ((path.length : Nat) : Int) = ((i + 1 : Nat) : Int) := by
        rw [e13]
        unfold wa
        rw [raf_wA, if_pos ⟨rfl, rfl⟩]
        unfold upI
        rw [if_pos rfl]
        omega
      exact ih (i + 1) s fl one another s13 (by omega) hRR (fInv_up hF0 f13 (Or.inl rfl) K13 (jB.sq f13 (by decide)) rfl rfl rfl j4e r13 (by rw [f13.nra 1078 0 _ (by decide)]; exact j6d) (by omega) j10) (by omega) hp
end ZTab
