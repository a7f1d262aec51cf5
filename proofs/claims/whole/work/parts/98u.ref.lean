/-! A goal is asked: the reference. -/
theorem cno_pos : ∀ {l s : List Int}, (∀ t, t ∈ l → 0 ≤ t) → cno s l = l := by
  intro l
  induction l with
  | nil => intro s _; rfl
  | cons t l ih =>
    intro s h
    have := h t List.mem_cons_self
    rw [cno_cons, if_neg (by omega), ih (fun t ht => h t (List.mem_cons_of_mem _ ht))]
theorem cnoS_clsd {D : List Int} : (cnoS [] D).length = 0 ↔ clsd (cno [] D) = true := by
  refine ⟨fun h => ?_, fun h => ?_⟩
  · have e : cnoS [] D = [] := List.length_eq_zero_iff.mp h
    have hp : ∀ t, t ∈ D → 0 ≤ t := fun t ht => Classical.byContradiction (fun w => by
      have := cnoS_mem (s := []) ht (by omega)
      rw [e] at this
      cases this)
    rw [cno_pos hp]
    unfold clsd
    exact List.all_eq_true.mpr (fun t ht => decide_eq_true (hp t ht))
  · have hp := clsd_cno h
    refine List.length_eq_zero_iff.mpr (Classical.byContradiction (fun w => ?_))
    obtain ⟨t, ht⟩ := List.exists_mem_of_ne_nil _ w
    obtain ⟨t0, t1⟩ := cnoS_neg (s := []) (fun t ht => by cases ht) t ht
    rcases t1 with t1 | t1
    · cases t1
    · have := hp t t1
      omega
def agC : List (Nat × Int) := (1103, 0) :: (1107, 0) :: oF
section ZZb
variable {P : zP} {LP : jS → Prop}
set_option maxRecDepth 8000 in
theorem t_askGoal {nA nS : Nat} (hLP : ∀ σ, rs σ 1099 0 = -1 → 0 < rs σ 1098 0 → TrV nS i_Model_step [jo 1 0] σ LP → LP σ) (hnS : nA + 10 ≤ nS) (hnA : 6 ≤ nA) (hT : tok P.1) (hsc : 0 ≤ P.2.2.2.1 ∧ P.2.2.2.1 < tS P.1) : ∀ (m : Nat) (path : List (Int × Int)) (nT : Nat), 6 ≤ nT → 1 ≤ m → m + path.length = 21 → askMC P nT LP (fun s y => askS P m path s y) path := by
  intro m
  induction m with
  | zero => intro path nT _ h; omega
  | succ m ih =>
    intro path nT hnA2 _ hmp s y β σ hB hH hrep hgk hok hfr hcm y0 y1 hbN hbp hbz hsv hpath hq hEr
    dsimp only at hq hEr
    have hz := hgk.1
    have hB0 := hB
    obtain ⟨z1, z2, ⟨z3a, z3b, z3c, z3d⟩, ⟨z4, z4b, z4c, z4d, z4e⟩, z5, z6, z7, ⟨z8, z8b⟩, z9⟩ := hB
    obtain ⟨n1, n2, n3, n4, n5, n6, n7, n8, n9⟩ := hok
    have l71 := mln_at z1 1071 21 (by decide)
    have l72 := mln_at z1 1072 21 (by decide)
    have l73 := mln_at z1 1073 21 (by decide)
    have l93 := mln_at z1 1093 21 (by decide)
    have l69 := mln_at z1 1069 40 (by decide)
    generalize hr : rowE (hG s) (hN s) (hE s) y = r
    have hrow : r = cno [] (ex (hG s) (hN s) β y) := by rw [← hr]; exact rowE_eq hz hrep y0 y1
    have hlen : r.length = (ex (hG s) (hN s) β y).length := by rw [hrow, cno_len]
    -- an asking that ends so
    have err : ∀ (e : Int) (s' : jS), ¬ e = 0 → ¬ e = 2 → sq ((1099, 0) :: oF) σ s' → rs s' 1099 0 = e → askS P (m + 1) path s y = (s, e, none, noQ) → LP s' := by
      intro e s' e0 e2 f1 r1 hAE
      refine hEr (by rw [hAE]; exact e0) s' ?_
      rw [hAE]
      refine ⟨f1.mo (by decide), r1, ?_, z6.K (f1.ndK (L := 8200) (by decide)) (Int.le_refl _) (f1.nrs 1063 0 (by decide)) (f1.nrs 1065 0 (by decide)) (f1.nrs 1070 0 (by decide)), fun w => absurd w e2⟩
      rw [f1.nrs 1103 0 (by decide), f1.nrs 1104 0 (by decide), f1.nrs 1105 0 (by decide), f1.nrs 1106 0 (by decide), f1.nrs 1107 0 (by decide)]
      exact ⟨z4, z4b, z4c, z4d, z4e⟩
    refine wp_Model_askGoal ⟨by omega, by omega, t_layOut (by omega) hH hrep.2.1 y0 y1 (fun s3 f3 hl => ?_)⟩
    have c103 : rs s3 1103 0 = sA s := by rw [f3.nrs 1103 0 (by decide)]; exact z4
    have c98 : rs s3 1098 0 = ((path.length : Nat) : Int) := by rw [f3.nrs 1098 0 (by decide)]; exact hfr
    rw [c103, c98]
    by_cases q200 : sA s = 200
    · rw [if_pos q200]
      refine wp_Model_askGoal_31 ⟨by omega, ?_⟩
      rw [if_neg (fun w => w (c103.trans q200))]
      intro s4 e4
      refine err 3 s4 (by decide) (by decide) ?_ (by rw [e4, rs_ws, if_pos ⟨rfl, rfl⟩]) ?_
      · rw [e4]; exact (f3.mo (by decide)).pws 1099 0 _ (by decide)
      · unfold askS
        rw [if_pos q200]
    rw [if_neg q200]
    by_cases q20 : 20 ≤ path.length
    · rw [if_pos (by omega)]
      refine wp_Model_askGoal_31 ⟨by omega, ?_⟩
      rw [if_pos (by omega), if_neg (fun w => w (by omega))]
      intro s4 e4
      refine err 4 s4 (by decide) (by decide) ?_ (by rw [e4, rs_ws, if_pos ⟨rfl, rfl⟩]) ?_
      · rw [e4]; exact (f3.mo (by decide)).pws 1099 0 _ (by decide)
      · unfold askS
        rw [if_neg q200, if_pos q20]
    rw [if_neg (by omega)]
    by_cases q100 : 100 < r.length
    · rw [if_neg (show ¬ (ex (hG s) (hN s) β y).length ≤ 100 by omega), if_neg (by omega)]
      refine wp_Model_askGoal_31 ⟨by omega, ?_⟩
      rw [if_pos (by omega), if_pos (by omega)]
      intro s4 e4
      refine err 5 s4 (by decide) (by decide) ?_ (by rw [e4, rs_ws, if_pos ⟨rfl, rfl⟩]) ?_
      · rw [e4]; exact (f3.mo (by decide)).pws 1099 0 _ (by decide)
      · unfold askS
        rw [if_neg q200, if_neg q20, hr, if_pos q100]
    have hxl : (ex (hG s) (hN s) β y).length ≤ 100 := by omega
    have hpl : path.length < 20 := by omega
    rw [if_pos hxl, if_pos (by omega)]
    rw [List.take_of_length_le hxl] at hl
    refine ⟨⟨by omega, by omega⟩, fun s6 e6 => ?_⟩
    have f6 : sq [(1103, 0)] s3 s6 := by rw [e6]; exact (sq.rf _ s3).pws 1103 0 _ (by decide)
    have r6 : rs s6 1103 0 = sA s + 1 := by rw [e6, rs_ws, if_pos ⟨rfl, rfl⟩]
    clear e6
    rw [f6.nrs 1098 0 (by decide), c98, f6.nrs 1107 0 (by decide), f3.nrs 1107 0 (by decide), z4e]
    generalize hs1 : ((s.1, sM s, sA s + 1, sMt s, sC s, sTr s, max (sD s) (((path.length : Nat) : Int) + 1)) : zS) = s1
    have eG : hG s1 = hG s := by rw [← hs1]; rfl
    have eN : hN s1 = hN s := by rw [← hs1]; rfl
    have eE : hE s1 = hE s := by rw [← hs1]; rfl
    have eM : sM s1 = sM s := by rw [← hs1]; rfl
    have eC : sC s1 = sC s := by rw [← hs1]; rfl
    have eA : sA s1 = sA s + 1 := by rw [← hs1]; rfl
    have eMt : sMt s1 = sMt s := by rw [← hs1]; rfl
    have eTr : sTr s1 = sTr s := by rw [← hs1]; rfl
    have eD : sD s1 = max (sD s) (((path.length : Nat) : Int) + 1) := by rw [← hs1]; rfl
    have ok1 : nOk s1 := by
      rw [← hs1]
      refine ⟨by show 0 ≤ sA s + 1; omega, by show sA s + 1 ≤ 200; omega, n3, by show sMt s ≤ sA s + 1; omega, n5, n6, by show sTr s + sC s - 144 * (sA s + 1) ≤ 200; unfold pot at n7; omega, by show 0 ≤ max (sD s) (((path.length : Nat) : Int) + 1); omega, by show max (sD s) (((path.length : Nat) : Int) + 1) ≤ 20; omega⟩
    have pot1 : pot s1 ≤ 56 := by
      rw [← hs1]
      show sTr s + sC s - 144 * (sA s + 1) ≤ 56
      unfold pot at n7
      omega
    have gk1 : gok s1 := by
      refine ⟨by rw [eG, eN]; exact hgk.1, by rw [eN]; exact hgk.2.1, by rw [eN, eE]; exact hgk.2.2.1, by rw [eA]; omega⟩
    have rep1 : repI s1 := by unfold repI; rw [eG, eN, eE]; exact ⟨β, hrep⟩
    have hbI : bI s1 s1 none := ⟨gk1.1, Int.le_refl _, agr.rf _ _, rfl, rfl, rfl⟩
    -- a frame of its own
    have enter : ∀ (cl : Int) (s9 : jS), sq agC σ s9 → rs s9 1103 0 = sA s + 1 → rs s9 1107 0 = max (sD s) (((path.length : Nat) : Int) + 1) → (cl = if clsd r = true then 1 else 0) → (if (P.2.2.2.2 && clsd r) = true then fndM (sM s) P.2.2.2.1 r else none) = none →
        i32 ((rs s9 1098 0) + 1) ∧ (∀ zs12, zs12 = ws s9 1098 0 ((rs s9 1098 0) + 1) → 0 ≤ rl zs12 1071 0 ∧ 0 ≤ rs s9 1098 0 ∧ rs s9 1098 0 < rl zs12 1071 0 ∧ (∀ zs14, zs14 = wa zs12 1071 0 (rs s9 1098 0) y → 0 ≤ rl zs14 1072 0 ∧ 0 ≤ rs s9 1098 0 ∧ rs s9 1098 0 < rl zs14 1072 0 ∧ (∀ zs18, zs18 = wa zs14 1072 0 (rs s9 1098 0) cl → 0 ≤ rl zs18 1073 0 ∧ 0 ≤ rs s9 1098 0 ∧ rs s9 1098 0 < rl zs18 1073 0 ∧ (∀ zs22, zs22 = wa zs18 1073 0 (rs s9 1098 0) (rs zs18 1105 0) → 0 ≤ rl zs22 1093 0 ∧ 0 ≤ rs s9 1098 0 ∧ rs s9 1098 0 < rl zs22 1093 0 ∧ (∀ zs26, zs26 = wa zs22 1093 0 (rs s9 1098 0) (rs zs22 1097 0) → TrV (nT - 1) i_Model_openLevel [jo 1 0, ji (rs s9 1098 0), ji (rs zs26 1108 0), ji 0] zs26 (fun zs29 => LP zs29)))))) := by
      intro cl s9 f9 r9 r9b hcl hnone
      have d98 : rs s9 1098 0 = ((path.length : Nat) : Int) := by rw [f9.nrs 1098 0 (by decide)]; exact hfr
      rw [d98]
      refine ⟨⟨by omega, by omega⟩, fun s12 e12 => ?_⟩
      have f12 : sq [(1098, 0)] s9 s12 := by rw [e12]; exact (sq.rf _ s9).pws 1098 0 _ (by decide)
      have r12 : rs s12 1098 0 = ((path.length : Nat) : Int) + 1 := by rw [e12, rs_ws, if_pos ⟨rfl, rfl⟩]
      clear e12
      rw [f12.nrl 1071 0, f9.nrl 1071 0, l71]
      refine ⟨by omega, by omega, by omega, fun s14 e14 => ?_⟩
      have f14 : sq [(1071, 0)] s12 s14 := by rw [e14]; exact (sq.rf _ s12).pwa 1071 0 _ _ (by decide)
      have r14 : ∀ i : Int, ra s14 1071 0 i = if i = ((path.length : Nat) : Int) then y else ra s12 1071 0 i := fun i => by
        rw [e14]
        unfold wa
        rw [raf_wA, if_pos ⟨rfl, rfl⟩]
        rfl
      have K14 : frK ((path.length : Nat) : Int) s12 s14 := by rw [e14]; exact frK_up (frK.rf _ _) (by decide) (Int.le_refl _)
      clear e14
      have f914 : sq ((1071, 0) :: (1098, 0) :: agC) σ s14 := ((f9.mo (by decide)).tr (f12.mo (by decide))).tr (f14.mo (by decide))
      rw [f914.nrl 1072 0, l72]
      refine ⟨by omega, by omega, by omega, fun s18 e18 => ?_⟩
      have f18 : sq [(1072, 0)] s14 s18 := by rw [e18]; exact (sq.rf _ s14).pwa 1072 0 _ _ (by decide)
      have r18 : ra s18 1072 0 ((path.length : Nat) : Int) = cl := by rw [e18]; exact wa_at _ _ _ _
      have K18 : frK ((path.length : Nat) : Int) s12 s18 := by rw [e18]; exact frK_up K14 (by decide) (Int.le_refl _)
      clear e18
      have f918 : sq ((1072, 0) :: (1071, 0) :: (1098, 0) :: agC) σ s18 := (f914.mo (by decide)).tr (f18.mo (by decide))
      rw [f918.nrl 1073 0, l73, f918.nrs 1105 0 (by decide), z4c]
      refine ⟨by omega, by omega, by omega, fun s22 e22 => ?_⟩
      have f22 : sq [(1073, 0)] s18 s22 := by rw [e22]; exact (sq.rf _ s18).pwa 1073 0 _ _ (by decide)
      have r22 : ra s22 1073 0 ((path.length : Nat) : Int) = sC s := by rw [e22]; exact wa_at _ _ _ _
      have K22 : frK ((path.length : Nat) : Int) s12 s22 := by rw [e22]; exact frK_up K18 (by decide) (Int.le_refl _)
      clear e22
      have f922 : sq ((1073, 0) :: (1072, 0) :: (1071, 0) :: (1098, 0) :: agC) σ s22 := (f918.mo (by decide)).tr (f22.mo (by decide))
      rw [f922.nrl 1093 0, l93, f922.nrs 1097 0 (by decide)]
      refine ⟨by omega, by omega, by omega, fun s26 e26 => ?_⟩
      have f26 : sq [(1093, 0)] s22 s26 := by rw [e26]; exact (sq.rf _ s22).pwa 1093 0 _ _ (by decide)
      have r26 : ra s26 1093 0 ((path.length : Nat) : Int) = rs σ 1097 0 := by rw [e26]; exact wa_at _ _ _ _
      have K26 : frK ((path.length : Nat) : Int) s12 s26 := by rw [e26]; exact frK_up K22 (by decide) (Int.le_refl _)
      clear e26
      have F : sq ((1093, 0) :: (1073, 0) :: (1072, 0) :: (1071, 0) :: (1098, 0) :: agC) σ s26 := (f922.mo (by decide)).tr (f26.mo (by decide))
      have G : sq [(1093, 0), (1073, 0), (1072, 0), (1071, 0)] s12 s26 := (((f14.mo (by decide)).tr (f18.mo (by decide))).tr (f22.mo (by decide))).tr (f26.mo (by decide))
      have KK : frK ((path.length : Nat) : Int) σ s26 := (((f9.frK (by decide)).tr (f12.frK (by decide)))).tr K26
      have r71 : ∀ i : Int, ra s26 1071 0 i = if i = ((path.length : Nat) : Int) then y else ra σ 1071 0 i := fun i => by
        rw [f26.nra 1071 0 _ (by decide), f22.nra 1071 0 _ (by decide), f18.nra 1071 0 _ (by decide), r14, f12.nra 1071 0 _ (by decide), f9.nra 1071 0 _ (by decide)]
      have B26 : mB s26 P s1 path := by
        refine ⟨z1.sq F, z2.sq F (by decide), ?_, ⟨?_, ?_, ?_, ?_, ?_⟩, fun d hd => ?_, ?_, ?_, ?_, ?_⟩
        · rw [F.nrs 1015 0 (by decide), F.nrs 1016 0 (by decide), F.nrs 1108 0 (by decide), F.nrs 1100 0 (by decide)]; exact ⟨z3a, z3b, z3c, z3d⟩
        · rw [G.nrs 1103 0 (by decide), f12.nrs 1103 0 (by decide), eA]; exact r9
        · rw [F.nrs 1104 0 (by decide), eMt]; exact z4b
        · rw [F.nrs 1105 0 (by decide), eC]; exact z4c
        · rw [F.nrs 1106 0 (by decide), eTr]; exact z4d
        · rw [G.nrs 1107 0 (by decide), f12.nrs 1107 0 (by decide), eD]; exact r9b
        · rw [F.nra 1081 0 _ (by decide), r71, if_neg (by omega)]; exact z5 d hd
        · rw [eM]; exact z6.K (F.ndK (L := 8200) (by decide)) (Int.le_refl _) (F.nrs 1063 0 (by decide)) (F.nrs 1065 0 (by decide)) (F.nrs 1070 0 (by decide))
        · rw [F.nrs 1099 0 (by decide)]; exact z7
        · rw [F.nrs 1064 0 (by decide), eA]; exact ⟨z8, by omega⟩
        · rw [F.nrs 1097 0 (by decide)]; exact z9
      have hb26 : fBas P σ s26 s1 s1 path β y cl (sC s) := by
        refine ⟨⟨F.mo (by decide), KK, F.ndK (by decide), kpp.of F (by decide)⟩, B26, ⟨?_, ?_⟩, ⟨?_, ?_, gk1, hbI, ok1, Int.le_refl _⟩, ⟨?_, ?_, ?_, r26⟩, fun j _ _ => ⟨F.nra 1095 0 _ (by decide), F.nra 1096 0 _ (by decide)⟩, F.nrs 1097 0 (by decide), F.nrs 1064 0 (by decide), F.nrs 1034 0 (by decide)⟩
        · rw [G.nrs 1098 0 (by decide)]; exact r12
        · rw [F.nrs 1101 0 (by decide)]; exact hcm
        · rw [eG, eN]; exact hH.sq F (by decide)
        · rw [eG, eN, eE]; exact hrep
        · rw [r71, if_pos rfl]
        · rw [f26.nra 1072 0 _ (by decide), f22.nra 1072 0 _ (by decide)]; exact r18
        · rw [f26.nra 1073 0 _ (by decide)]; exact r22
      -- what it comes to
      have hseekI := seek_I (P := P) (ask := fun k s' y' => askS P m (path ++ [(k, y)]) s' y') (path := path) (x := y) (B := s1) hT (fun k s y => ask_R hT m _ s y) (fun k => ask_I hT m _) gk1 rep1 y0 (by rw [eN]; exact y1) 6 P.2.2.2.1 0 s1 (Int.le_refl _) gk1.2.2.2 rfl
      generalize hRR : spSeek P (fun k s' y' => askS P m (path ++ [(k, y)]) s' y') path y 6 P.2.2.2.1 0 s1 = R at hseekI
      have hAE : askS P (m + 1) path s y = spKeep P r s R := by
        unfold askS
        rw [if_neg q200, if_neg q20, if_neg (by rw [hr]; exact q100), hr, hnone]
        dsimp only
        rw [hs1, hRR]
      have hsx := hT.2.2.2.2.1 P.2.2.2.1 hsc.1 hsc.2
      have hz1 : hN s1 + 120 ≤ 12 + 120 * sA s1 := by rw [eN, eA]; omega
      have hz2 : rs σ 1034 0 + 120 ≤ 12 + 120 * sA s1 := by rw [eA]; omega
      have hz3 : (zu (hG s1) (hN s1) : Int) + 52 ≤ 12 + 52 * sA s1 := by rw [eG, eN, eA]; omega
      have hxl1 : (ex (hG s1) (hN s1) β y).length ≤ 100 := by rw [eG, eN]; exact hxl
      have hrep1 : rep (hG s1) (hN s1) β (hE s1) := by rw [eG, eN, eE]; exact hrep
      have hsv1 : rs σ 1097 0 ≤ 100 * ((path.length : Nat) : Int) + zu (hG s1) (hN s1) := by rw [eG, eN]; exact hsv
      rw [F.nrs 1108 0 (by decide), z3c]
      refine t_seek (ask := fun k s' y' => askS P m (path ++ [(k, y)]) s' y') (σ0 := σ) (s0 := s1) (β := β) (R := R) (cl := cl) (cu := sC s) hLP hnS (fun k k0 k1 => ?_) (fun k s y => ask_R hT m _ s y) (fun k => ask_I hT m _) hT hpl y0 (by rw [eN]; exact y1) gk1 hrep1 hxl1 (fun p hp => by rw [eN]; exact hpath p hp) z9 hsv1 hz1 hz2 hz3 (fun hne σ' he => ?_) (fun sc lvl cds C' r' s' o fl' σ' hC' hR2 hF' => ?_) (fun s' σ' hR2 hb' => ?_) 6 P.2.2.2.1 0 s1 s26 (nT - 1) (by omega) hRR hb26 hsc.1 hsc.2 (by omega) (Int.le_refl _) (by omega) (by omega)
      · exact ih (path ++ [(k, y)]) nA hnA (by omega) (by rw [List.length_append, List.length_singleton]; omega)
      · -- in another way
        have hAE2 : askS P (m + 1) path s y = R := by
          rw [hAE]
          unfold spKeep
          rw [if_neg (fun w => hne w.2.1)]
        exact hEr (by rw [hAE2]; exact hne) σ' (by rw [hAE2]; exact he)
      · -- found
        obtain ⟨v1, v2, v3⟩ := hseekI _ (by rw [hR2])
        rw [hR2] at v1 v2 v3
        obtain ⟨u1, u2⟩ := v3
        refine t_leaveFound (r := r') (by omega) hpl y0 (by rw [eN]; exact y1) gk1 hrep1 hxl1 z9 hsv1 hz3 (by rw [eA]; omega) hC' hF' (fun b hb => u1 b (List.mem_cons_of_mem _ hb)) (fun node σ2 hlv => ?_)
        refine t_leave (s := s) (r := r) (by omega) hpl hlv eG eN eA hcl rfl (fun hc => ?_) (by omega) y0 y1 z9 (fun t ht z hz2 => ?_) (fun σ3 hp3 => ?_)
        · obtain ⟨β1, hb1⟩ := v1
          obtain ⟨b1, b2, b3, b4, D, b5, b6⟩ := v2
          rw [← hr] at hc ⊢
          have := row_cl hz b1 (by rw [← eG, ← eN]; exact b3) (by rw [← eN]; exact b2) hrep (by rw [← eE, ← b5]; exact hb1) y0 y1 hc
          rw [← eE, ← b5, eE] at this
          exact this
        · cases ht
          have := u2 z hz2
          exact ⟨this.2.1, this.2.2.1⟩
        · refine hq ?_ σ3 ?_
          · rw [hAE, hR2]
            unfold spKeep
            split <;> rfl
          · rw [hAE, hR2]
            exact hp3
      · -- not found
        obtain ⟨k1, k2, k3, ⟨k4, k4b, k4c, ⟨g1, g2, g3, g4, g5, g6⟩, k4e, k4f⟩, k5, k8, k97, k64, k34⟩ := hb'
        have hlv : lvI P σ σ' s1 s' path β y cl (sC s) (-1) none := ⟨k1, k2, k3, k8, k5, ⟨by omega, by omega⟩, ⟨g3, g2⟩, ⟨k4e, k4f⟩, [], k4, k4b, fun _ => rfl, fun t ht => by cases ht⟩
        refine t_leave (s := s) (r := r) (by omega) hpl hlv eG eN eA hcl rfl (fun hc => ?_) (by omega) y0 y1 z9 (fun t ht => by cases ht) (fun σ3 hp3 => ?_)
        · rw [g5, g6, g4, eG, eN, eE]; exact hr
        · refine hq ?_ σ3 ?_
          · rw [hAE, hR2]
            unfold spKeep
            split <;> rfl
          · rw [hAE, hR2]
            exact hp3
    have ent139 : ∀ (cl : Int) (s9 : jS), sq agC σ s9 → rs s9 1103 0 = sA s + 1 → rs s9 1107 0 = max (sD s) (((path.length : Nat) : Int) + 1) → (cl = if clsd r = true then 1 else 0) → (if (P.2.2.2.2 && clsd r) = true then fndM (sM s) P.2.2.2.1 r else none) = none → J nT c_Model_askGoal none 139 [some (jo 1 0), some (ji y), none, some (ji cl), none, none] [] s9 (qV LP) := by
      intro cl s9 f9 r9 r9b hcl hnone
      obtain ⟨a1, a2⟩ := enter cl s9 f9 r9 r9b hcl hnone
      refine wp_Model_askGoal_139 ⟨by omega, a1, fun s3 e3 => ?_⟩
      obtain ⟨b1, b2, b3, b4⟩ := a2 s3 e3
      refine ⟨b1, b2, b3, fun s5 e5 => ?_⟩
      obtain ⟨c1, c2, c3, c4⟩ := b4 s5 e5
      refine ⟨c1, by rw [hcl]; split <;> simp, c2, c3, fun s9 e9 => ?_⟩
      obtain ⟨d1, d2, d3, d4⟩ := c4 s9 e9
      refine ⟨d1, d2, d3, fun s14 e14 => ?_⟩
      obtain ⟨h1, h2, h3, h4⟩ := d4 s14 e14
      exact ⟨h1, h2, h3, fun s18 e18 => ⟨by omega, h4 s18 e18⟩⟩
    -- behind the counters
    have cont : ∀ s8 : jS, sq agC σ s8 → rs s8 1103 0 = sA s + 1 → rs s8 1107 0 = max (sD s) (((path.length : Nat) : Int) + 1) → laid s8 (ex (hG s) (hN s) β y) →
        (if ¬ rs s8 1044 0 = 0 then J nT c_Model_askGoal none 139 [some (jo 1 0), some (ji y), none, some (ji 0), none, none] [] s8 (qV LP) else (if ¬ rs s8 1100 0 = 0 then J nT c_Model_askGoal none 139 [some (jo 1 0), some (ji y), none, some (ji 1), none, none] [] s8 (qV LP) else TrI (nT - 1) i_Model_memoryOf [jo 1 0, ji (rs s8 1108 0)] s8 (fun zr10 zs9 => (if zr10 = (-1) then i32 ((rs zs9 1098 0) + 1) ∧ (∀ zs12, zs12 = ws zs9 1098 0 ((rs zs9 1098 0) + 1) → 0 ≤ rl zs12 1071 0 ∧ 0 ≤ rs zs9 1098 0 ∧ rs zs9 1098 0 < rl zs12 1071 0 ∧ (∀ zs14, zs14 = wa zs12 1071 0 (rs zs9 1098 0) y → 0 ≤ rl zs14 1072 0 ∧ 0 ≤ rs zs9 1098 0 ∧ rs zs9 1098 0 < rl zs14 1072 0 ∧ (∀ zs18, zs18 = wa zs14 1072 0 (rs zs9 1098 0) 1 → 0 ≤ rl zs18 1073 0 ∧ 0 ≤ rs zs9 1098 0 ∧ rs zs9 1098 0 < rl zs18 1073 0 ∧ (∀ zs22, zs22 = wa zs18 1073 0 (rs zs9 1098 0) (rs zs18 1105 0) → 0 ≤ rl zs22 1093 0 ∧ 0 ≤ rs zs9 1098 0 ∧ rs zs9 1098 0 < rl zs22 1093 0 ∧ (∀ zs26, zs26 = wa zs22 1093 0 (rs zs9 1098 0) (rs zs22 1097 0) → TrV (nT - 1) i_Model_openLevel [jo 1 0, ji (rs zs9 1098 0), ji (rs zs26 1108 0), ji 0] zs26 (fun zs29 => LP zs29)))))) else i32 ((rs zs9 1104 0) + 1) ∧ (∀ zs32, zs32 = ws zs9 1104 0 ((rs zs9 1104 0) + 1) → (∀ zs33, zs33 = ws zs32 1101 0 1 → 0 ≤ rl zs33 1069 0 ∧ 0 ≤ zr10 ∧ zr10 < rl zs33 1069 0 ∧ (∀ zs37, zs37 = ws zs33 1102 0 (ra zs33 1069 0 zr10) → LP zs37))))))) := by
      intro s8 f8 r8 r8b hl8
      rw [hl8.2.2.1, f8.nrs 1100 0 (by decide), z3d]
      have hcs : (cnoS [] (ex (hG s) (hN s) β y)).length = 0 ↔ clsd r = true := by rw [hrow]; exact cnoS_clsd
      by_cases qc : clsd r = true
      · rw [if_neg (fun w => w (by have := hcs.mpr qc; omega))]
        by_cases qr : P.2.2.2.2 = true
        · rw [if_pos qr, if_neg (by decide)]
          have hM8 : mMem s8 (sM s) := z6.K (f8.ndK (L := 8200) (by decide)) (Int.le_refl _) (f8.nrs 1063 0 (by decide)) (f8.nrs 1065 0 (by decide)) (f8.nrs 1070 0 (by decide))
          rw [f8.nrs 1108 0 (by decide), z3c]
          refine t_memoryOf (r := r) (z1.sq f8) hM8 hl8 hxl hrow ?_
          cases hf : fndM (sM s) P.2.2.2.1 r with
          | none =>
            dsimp only
            rw [if_pos rfl]
            exact enter 1 s8 f8 r8 r8b (by rw [if_pos qc]) (by rw [hf]; split <;> rfl)
          | some j =>
            dsimp only
            rw [if_neg (by omega)]
            have hj : j < (sM s).length := by
              unfold fndM at hf
              obtain ⟨h, -⟩ := List.findIdx?_eq_some_iff_getElem.mp hf
              exact h
            have hAE : askS P (m + 1) path s y = ((s.1, sM s, sA s + 1, sMt s + 1, sC s, sTr s, max (sD s) ((path.length : Nat) + 1)), 0, (if memT (sM s) j = [] then none else some [.inr j]), noQ) := by
              unfold askS
              rw [if_neg q200, if_neg q20, if_neg (by rw [hr]; exact q100), hr, if_pos (by rw [qr, qc]; rfl), hf]
            have h40 := z6.2.1
            rw [f8.nrs 1104 0 (by decide), z4b]
            refine ⟨⟨by omega, by omega⟩, fun s32 e32 s33 e33 => ?_⟩
            have f32 : sq [(1104, 0)] s8 s32 := by rw [e32]; exact (sq.rf _ s8).pws 1104 0 _ (by decide)
            have r32 : rs s32 1104 0 = sMt s + 1 := by rw [e32, rs_ws, if_pos ⟨rfl, rfl⟩]
            clear e32
            have f33 : sq [(1101, 0)] s32 s33 := by rw [e33]; exact (sq.rf _ s32).pws 1101 0 _ (by decide)
            have r33 : rs s33 1101 0 = 1 := by rw [e33, rs_ws, if_pos ⟨rfl, rfl⟩]
            clear e33
            have e69 : ra s33 1069 0 = ra σ 1069 0 := by rw [f33.nraf 1069 0 (by decide), f32.nraf 1069 0 (by decide), f8.nraf 1069 0 (by decide)]
            rw [f33.nrl 1069 0, f32.nrl 1069 0, f8.nrl 1069 0, l69, e69]
            refine ⟨by omega, by omega, by omega, fun s37 e37 => ?_⟩
            have f37 : sq [(1102, 0)] s33 s37 := by rw [e37]; exact (sq.rf _ s33).pws 1102 0 _ (by decide)
            have r37 : rs s37 1102 0 = ra σ 1069 0 ((j : Nat) : Int) := by rw [e37, rs_ws, if_pos ⟨rfl, rfl⟩]
            clear e37
            have F : sq ((1101, 0) :: (1102, 0) :: (1104, 0) :: agC) σ s37 := (((f8.mo (by decide)).tr (f32.mo (by decide))).tr (f33.mo (by decide))).tr (f37.mo (by decide))
            have G : sq [(1101, 0), (1102, 0), (1104, 0)] s8 s37 := ((f32.mo (by decide)).tr (f33.mo (by decide))).tr (f37.mo (by decide))
            have nd : ndK 8420 σ s37 := F.ndK (by decide)
            have e64 : rs s37 1064 0 = rs σ 1064 0 := F.nrs 1064 0 (by decide)
            refine hq (by rw [hAE]) s37 ?_
            rw [hAE]
            refine ⟨⟨F.mo (by decide), F.frK (by decide), nd.mo (by omega), kpp.of F (by decide)⟩, ⟨z1.sq F, z2.sq F (by decide), ?_, ⟨?_, ?_, ?_, ?_, ?_⟩, ?_, z6.K (nd.mo (by decide) : ndK 8200 σ s37) (Int.le_refl _) (F.nrs 1063 0 (by decide)) (F.nrs 1065 0 (by decide)) (F.nrs 1070 0 (by decide)), ?_, ?_, ?_⟩, ⟨?_, ?_⟩, ⟨F.nrs 1097 0 (by decide), fun j _ _ => ⟨F.nra 1095 0 _ (by decide), F.nra 1096 0 _ (by decide)⟩⟩, ⟨?_, ?_⟩, ⟨agr.rf _ _, Int.le_refl _⟩, [], hH.sq F (by decide), hrep, fun w => ?_, fun t ht => ?_⟩
            · rw [F.nrs 1015 0 (by decide), F.nrs 1016 0 (by decide), F.nrs 1108 0 (by decide), F.nrs 1100 0 (by decide)]; exact ⟨z3a, z3b, z3c, z3d⟩
            · rw [G.nrs 1103 0 (by decide)]; exact r8
            · rw [f37.nrs 1104 0 (by decide), f33.nrs 1104 0 (by decide)]; exact r32
            · rw [F.nrs 1105 0 (by decide)]; exact z4c
            · rw [F.nrs 1106 0 (by decide)]; exact z4d
            · rw [G.nrs 1107 0 (by decide)]; exact r8b
            · rw [F.nraf 1081 0 (by decide), F.nraf 1071 0 (by decide)]; exact z5
            · rw [F.nrs 1099 0 (by decide)]; exact z7
            · rw [e64]; show 8200 ≤ rs σ 1064 0 ∧ rs σ 1064 0 ≤ 8200 + (sA s + 1); omega
            · rw [F.nrs 1097 0 (by decide)]; exact z9
            · rw [F.nrs 1098 0 (by decide)]; exact hfr
            · rw [f37.nrs 1101 0 (by decide)]; exact r33
            · rw [F.nrs 1034 0 (by decide)]; show rs σ 1034 0 ≤ rs σ 1034 0 + 120 * (sA s + 1 - sA s); omega
            · rw [e64]; show rs σ 1064 0 ≤ rs σ 1064 0 ∧ rs σ 1064 0 ≤ rs σ 1064 0 + (sA s + 1 - sA s); omega
            · rw [r37]
              have c6 := (z6.2.2.1 j hj).2.2.2.2.2
              have hem : memT (sM s) j = [] := by
                have w2 : (if memT (sM s) j = [] then (none : Option (List zI)) else some [.inr j]) = none := w
                by_cases q : memT (sM s) j = []
                · exact q
                · rw [if_neg q] at w2; cases w2
              rw [memT_at hj] at hem
              rw [if_pos hem] at c6
              exact c6
            · have ht2 : (if memT (sM s) j = [] then (none : Option (List zI)) else some [.inr j]) = some t := ht
              by_cases q : memT (sM s) j = []
              · rw [if_pos q] at ht2; cases ht2
              · rw [if_neg q] at ht2
                have et := Option.some.inj ht2
                subst et
                obtain ⟨a1, a2, a3⟩ := mMem_root z6 q
                have hst := nRs_stys a2 _ (List.mem_singleton.mpr rfl)
                have hrg := nRs_rng (by decide) (by have := mB_mM hB0; omega) a2 _ (List.mem_singleton.mpr rfl)
                refine ⟨⟨by rw [r37]; exact hrg.1, ⟨by rw [r37]; exact hrg.1, ?_, ?_, ?_⟩, trivial⟩, fun K k1 k2 k3 => ⟨fun p hp => (by cases hp), k2⟩, ?_⟩
                · rw [r37, F.nrs 1063 0 (by decide)]; omega
                · rw [F.nrs 1070 0 (by decide), z6.1]; omega
                · rw [r37, F.nraf 1069 0 (by decide)]
                · show (expT (sM s) [.inr j]).length ≤ 200
                  rw [expT_inr]
                  show (memT (sM s) j ++ expT (sM s) []).length ≤ 200
                  rw [List.length_append]
                  show (memT (sM s) j).length + 0 ≤ 200
                  omega
        · rw [if_neg qr, if_pos (by decide)]
          exact ent139 1 s8 f8 r8 r8b (by rw [if_pos qc]) (if_neg (fun w => qr (by
            rw [Bool.and_eq_true] at w
            exact w.1)))
      · rw [if_pos (fun w => qc (hcs.mp (by omega)))]
        exact ent139 0 s8 f8 r8 r8b (by rw [if_neg qc]) (if_neg (fun w => qc (by
          rw [Bool.and_eq_true] at w
          exact w.2)))
    have lay8 : ∀ s8, sq [(1107, 0)] s6 s8 → laid s8 (ex (hG s) (hN s) β y) := fun s8 f8 => by
      have g : sq [(1103, 0), (1107, 0)] s3 s8 := (f6.mo (by decide)).tr (f8.mo (by decide))
      unfold laid
      rw [g.nrs 1043 0 (by decide), g.nraf 1041 0 (by decide), g.nrs 1044 0 (by decide), g.nraf 1042 0 (by decide), g.nrs 1045 0 (by decide)]
      exact hl
    refine ⟨⟨by omega, by omega⟩, ?_⟩
    by_cases qD : ((path.length : Nat) : Int) + 1 ≤ sD s
    · rw [if_pos qD]
      intro s8 e8
      have f8 : sq [(1107, 0)] s6 s8 := by rw [e8]; exact (sq.rf _ s6).pws 1107 0 _ (by decide)
      have r8 : rs s8 1107 0 = sD s := by rw [e8, rs_ws, if_pos ⟨rfl, rfl⟩]
      clear e8
      exact cont s8 (((f3.mo (by decide)).tr (f6.mo (by decide))).tr (f8.mo (by decide))) (by rw [f8.nrs 1103 0 (by decide)]; exact r6) (by omega) (lay8 s8 f8)
    · rw [if_neg qD]
      intro s8 e8
      have f8 : sq [(1107, 0)] s6 s8 := by rw [e8]; exact (sq.rf _ s6).pws 1107 0 _ (by decide)
      have r8 : rs s8 1107 0 = ((path.length : Nat) : Int) + 1 := by rw [e8, rs_ws, if_pos ⟨rfl, rfl⟩]
      clear e8
      exact cont s8 (((f3.mo (by decide)).tr (f6.mo (by decide))).tr (f8.mo (by decide))) (by rw [f8.nrs 1103 0 (by decide)]; exact r6) (by omega) (lay8 s8 f8)
end ZZb
