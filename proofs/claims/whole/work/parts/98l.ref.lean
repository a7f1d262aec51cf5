/-! A level's rounds: the reference. -/
section ZUc
variable {n : Nat} {σ0 σ σ1 : jS} {β : List (Int × Int)} {x cl cu cds lvl sc fl : Int} {P : zP} {s0 s : zS} {path : List (Int × Int)} {C : List Int} {i : Nat} {another : Option Int} {LP : jS → Prop} {ask : Int → zS → Int → zS × zQ} {R : zS × zQ}
set_option maxRecDepth 8000 in
theorem t_rounds {nA nS : Nat} (hLP : ∀ σ, rs σ 1099 0 = -1 → 0 < rs σ 1098 0 → TrV nS i_Model_step [jo 1 0] σ LP → LP σ) (hnS : nA + 10 ≤ nS) (hask : ∀ k, 0 ≤ k → k < tG P.1 → askMC P nA LP (ask k) (path ++ [(k, x)])) (hR : ∀ k s y, gok s → 0 ≤ y → y < hN s → askR s (ask k s y) 0 0 0) (hI : ∀ k, askI (ask k)) (hT : tok P.1) (hd : path.length < 20) (x0 : 0 ≤ x) (x1 : x < hN s0) (hgs0 : gok s0) (hrep0 : rep (hG s0) (hN s0) β (hE s0)) (hxl : (ex (hG s0) (hN s0) β x).length ≤ 100) (hpath : ∀ p, p ∈ path → 0 ≤ p.2 ∧ p.2 < hN s0) (hS97 : 0 ≤ rs σ0 1097 0) (hsv : rs σ0 1097 0 ≤ 100 * ((path.length : Nat) : Int) + zu (hG s0) (hN s0)) (hbN : hN s0 + 120 ≤ 12 + 120 * sA s0) (hbp : rs σ0 1034 0 + 120 ≤ 12 + 120 * sA s0) (hbz : (zu (hG s0) (hN s0) : Int) + 52 ≤ 12 + 52 * sA s0) (hsc : 0 ≤ sc ∧ sc < tS P.1) (hlv : 0 ≤ lvl ∧ lvl < 100)
    (hErr : ¬ R.2.1 = 0 → ∀ σ', mErr σ0 σ' R → LP σ')
    (hFound : ∀ (C' : List Int) (r : Int → Bool) (s' : zS) (o : Int × List zI × List (Int × Int)) (fl' : Int) (σ' : jS), C' = (zrg (tG P.1)).filter r → R = (((hG s', hN s', o.2.2), s'.2), (0, some (.inl (o.1, lvl, cds, fl', ((C'.length : Nat) - ((bstL P.1 C').length : Nat) : Int), tN P.1 o.1, x, none) :: o.2.1), noQ)) → fInv P σ0 σ' s0 s' path β x cl cu cds lvl sc C' fl' 24 (some o) none → TrV (nS - 1) i_Model_leaveFound [jo 1 0, ji ((path.length : Nat) : Int)] σ' LP)
    (hNx : ∀ s' σ', R = (s', 0, none, noQ) → fBas P σ0 σ' s0 s' path β x cl cu → if tA P.1 sc = -1 then TrV (nS - 1) i_Model_leave [jo 1 0, ji ((path.length : Nat) : Int), ji (-1)] σ' LP else TrV (nS - 1) i_Model_openLevel [jo 1 0, ji ((path.length : Nat) : Int), ji (tA P.1 sc), ji (lvl + 1)] σ' LP) :
    ∀ (m : Nat) (C : List Int) (s : zS) (fl : Int) (σ1 : jS), C.length ≤ m → spRounds P ask path x lvl cds m C s fl = R → fInv P σ0 σ1 s0 s path β x cl cu cds lvl sc C fl 0 none none → (∃ r, C = (zrg (tG P.1)).filter r) → (∀ k, k ∈ C → canB P s0 x k) → pot s + (C.length : Nat) ≤ 200 → fl + (C.length : Nat) ≤ 900 → J nS c_Model_step none 25 [some (jo 1 0), some (ji ((path.length : Nat) : Int)), none] [] σ1 (qV LP) := by
  intro m
  induction m with
  | zero =>
    intro C s fl σ1 hm hRR hF hC hcan hp hf
    have e : C = [] := List.length_eq_zero_iff.mp (by omega)
    subst e
    unfold spRounds at hRR
    refine t_best (lv2 := 0) (cd2 := 0) (unt := 0) (C := []) (R := (s, (0, none, noQ), fl)) hLP hnS hask hR hI hT hd x0 x1 hgs0 hrep0 hxl hpath hS97 hsv hbN hbp hbz (fun k hk => (by cases hk)) (fun s' fl' one' an' σ' hB hF' hfl => ?_) (fun w => absurd rfl w) 24 0 s fl none none σ1 rfl ?_ hF (by omega) ?_
    · obtain ⟨e1, e2, e3⟩ := spBest_nil hB
      subst e1; subst e2; subst e3
      exact t_end67 (by omega) hd (fun k hk => (by cases hk)) hsc hlv hF' (fun w => absurd rfl w) (fun _ σ' hb => hNx _ σ' hRR.symm hb)
    · have : ksf (bstL P.1 ([] : List Int)) 0 24 = [] := ksf_self (r := fun _ => false) (List.filter_eq_nil_iff.mpr (fun k _ w => (by cases w))).symm
      rw [this]; rfl
    · have : ksf (bstL P.1 ([] : List Int)) 0 24 = [] := ksf_self (r := fun _ => false) (List.filter_eq_nil_iff.mpr (fun k _ w => (by cases w))).symm
      rw [this]
      exact hp
  | succ m ih =>
    intro C s fl σ1 hm hRR hF hC hcan hp hf
    have hG24 := hT.2.2.2.1
    obtain ⟨r, hr⟩ := hC
    have hCr : ∀ k, k ∈ C → 0 ≤ k ∧ k < tG P.1 := fun k hk => by
      rw [hr] at hk
      exact mem_zrg_iff.mp (List.mem_filter.mp hk).1
    have hbst : ∀ k, k ∈ bstL P.1 C → k ∈ C := fun k hk => (List.mem_filter.mp hk).1
    have hkf : ksf (bstL P.1 C) 0 24 = bstL P.1 C := by
      refine ksf_self (r := fun k => (dcd (∀ c, c ∈ C → ¬ spc P.1 c k) && r k) && decide (k < tG P.1)) ?_
      obtain ⟨j, hj⟩ := Int.eq_ofNat_of_zero_le (show 0 ≤ 24 - tG P.1 by omega)
      rw [show ((24 : Nat) : Int) = tG P.1 + (j : Nat) by omega, zrg_cut hT.2.2.1 (fun k hk => by
        rw [Bool.and_eq_true, decide_eq_true_iff] at hk
        exact hk.2) j]
      conv => lhs; unfold bstL
      conv => lhs; arg 2; rw [hr]
      rw [List.filter_filter]
      refine List.filter_congr (fun k hk => ?_)
      have := mem_zrg_iff.mp hk
      rw [decide_eq_true this.2, Bool.and_true]
    have hF0 := hF
    obtain ⟨hbas, -, -⟩ := hF.bas
    obtain ⟨-, -, -, ⟨-, -, hgs, hbI, hok, hsA⟩, -⟩ := hbas
    have h2l := bst_two P.1 C
    by_cases qC : C = []
    · -- none
      have hR0 : (s, (0 : Int), (none : Option (List zI)), noQ) = R := by
        unfold spRounds at hRR
        rw [if_pos qC] at hRR
        exact hRR
      subst qC
      refine t_best (lv2 := 0) (cd2 := 0) (unt := 0) (C := []) (R := (s, (0, none, noQ), fl)) hLP hnS hask hR hI hT hd x0 x1 hgs0 hrep0 hxl hpath hS97 hsv hbN hbp hbz (fun k hk => (by cases hk)) (fun s' fl' one' an' σ' hB hF' hfl => ?_) (fun w => absurd rfl w) 24 0 s fl none none σ1 rfl (by rw [hkf]; rfl) hF (by omega) (by rw [hkf]; exact hp)
      obtain ⟨e1, e2, e3⟩ := spBest_nil hB
      subst e1; subst e2; subst e3
      exact t_end67 (by omega) hd (fun k hk => (by cases hk)) hsc hlv hF' (fun w => absurd rfl w) (fun _ σ' hb => hNx _ σ' hR0.symm hb)
    unfold spRounds at hRR
    rw [if_neg qC] at hRR
    have hBR := best_R (path := path) (lvl := lvl) (cds := cds) (unt := ((C.length : Nat) - ((bstL P.1 C).length : Nat))) (x := x) (B := s0) hT hR hgs0 x0 x1 (bstL P.1 C) s fl none none (fun k hk => hCr k (hbst k hk)) hsA (by have := hok.2.1; omega) hbI
    have hlt := bst_lt (T := P.1) qC
    generalize hBB : spBest P ask path x lvl cds ((C.length : Nat) - ((bstL P.1 C).length : Nat)) (bstL P.1 C) s fl none none = B at hRR hBR
    obtain ⟨r1, r2, r3, r4, r5, r6⟩ := hBR
    refine t_best (lv2 := lvl) (cd2 := cds) (unt := ((C.length : Nat) - ((bstL P.1 C).length : Nat))) (C := C) (R := B) hLP hnS hask hR hI hT hd x0 x1 hgs0 hrep0 hxl hpath hS97 hsv hbN hbp hbz (fun k hk => ⟨(hCr k (hbst k hk)).1, (hCr k (hbst k hk)).2, hcan k (hbst k hk)⟩) (fun s' fl' one' an' σ' hB hF' hfl => ?_) (fun hne σ' he => ?_) 24 0 s fl none none σ1 rfl (by rw [hkf]; exact hBB) hF (by omega) (by rw [hkf]; omega)
    · -- all tried
      cases one' with
      | none =>
        unfold spBest at hB
        subst hB
        dsimp only at hRR r1 r5
        rw [if_neg (fun w => w rfl)] at hRR
        have hpo := r1.2.2.2.2.2.2.1
        refine t_end67 (by omega) hd hCr hsc hlv hF' (fun qn σ2 hF2 => ?_) (fun qn σ2 hb2 => ?_)
        · refine hLP σ2 hF2.2.1.2.2.2.2.2.2.1 (by have := hF2.2.2.1.1; omega) (wp_Model_step ⟨by omega, by rw [hF2.2.2.1.1]; exact ⟨by omega, by omega⟩, ?_⟩)
          rw [if_pos hF2.2.2.1.2, hF2.2.2.1.1, show ((path.length : Nat) : Int) + 1 - 1 = ((path.length : Nat) : Int) by omega]
          refine ih _ s' fl' σ2 (by omega) hRR hF2 ⟨fun k => (!(bstL P.1 C).contains k) && r k, ?_⟩ (fun k hk => hcan k (List.mem_filter.mp hk).1) (by omega) (by omega)
          conv => lhs; arg 2; rw [hr]
          rw [List.filter_filter]
        · rw [qn] at hRR
          refine hNx s' σ2 ?_ hb2
          rw [← hRR]
          cases m with
          | zero => rfl
          | succ m => unfold spRounds; rw [if_pos rfl]
      | some o =>
        have hF2 := hF'
        obtain ⟨-, jB, ⟨j3, j3b⟩, ⟨j4, j4b, -, -, -, -⟩, ⟨j5, -, -, -⟩, ⟨j6, j6b, j6c, j6d, j6e, -, -⟩, -, -, j9, -⟩ := hF'
        have l80 := mln_at jB.1 1080 21 (by decide)
        have l89 := mln_at jB.1 1089 21 (by decide)
        refine wp_Model_step_67 ⟨by omega, by omega, by omega, by omega, ?_⟩
        rw [j6e, if_pos (by omega)]
        refine ⟨by omega, by omega, ?_⟩
        cases an' with
        | none =>
          have h89 : ra σ' 1089 0 ((path.length : Nat) : Int) = 1 := j9.1
          rw [if_pos (by omega), if_neg (by omega)]
          unfold spBest at hB
          subst hB
          dsimp only at hRR
          exact ⟨by omega, hFound C r s' o fl' σ' hr hRR.symm hF2⟩
        | some b =>
          obtain ⟨⟨h89, h91⟩, h90, -⟩ := j9
          rw [if_neg (by omega)]
          intro s37 e37
          have f37 : sq [(1099, 0)] σ' s37 := by rw [e37]; exact (sq.rf _ σ').pws 1099 0 _ (by decide)
          have r37 : rs s37 1099 0 = 2 := by rw [e37, rs_ws, if_pos ⟨rfl, rfl⟩]
          clear e37
          unfold spBest at hB
          subst hB
          dsimp only at hRR r1 r3 r4
          rw [if_pos (by decide)] at hRR
          have hxs : x < hN s' := by have := hF2.2.2.2.1.2.2.2.1.2.1; omega
          have hgs2 : gok s' := hF2.2.2.2.1.2.2.1
          obtain ⟨g1, g2, g3, g4, g5⟩ := hF2.2.2.2.1.2.2.2.1
          have hexs : ex (hG s') (hN s') β x = ex (hG s0) (hN s0) β x := ex_ext g3 g2 hgs0.1 g1 hrep0.1 hrep0.2.1 x x0 x1
          refine hErr (by rw [← hRR]; show ¬ (2 : Int) = 0; decide) s37 ?_
          rw [← hRR]
          refine ⟨hF2.1.1.tr (f37.mo (by decide)), r37, ?_, ?_, fun _ => ⟨hG s', hN s', β, x, j4.sq f37 (by decide), j4b.2.1, ⟨x0, hxs⟩, ?_, ?_, rowE_eq hgs2.1 j4b x0 hxs, by rw [hexs]; exact hxl, ?_, ?_⟩⟩
          · obtain ⟨z1, z2, z3, ⟨z4, z4b, z4c, z4d, z4e⟩, -⟩ := jB
            exact ⟨by rw [f37.nrs 1103 0 (by decide)]; exact z4, by rw [f37.nrs 1104 0 (by decide)]; exact z4b, by rw [f37.nrs 1105 0 (by decide)]; exact z4c, by rw [f37.nrs 1106 0 (by decide)]; exact z4d, by rw [f37.nrs 1107 0 (by decide)]; exact z4e⟩
          · exact jB.2.2.2.2.2.1.K (f37.ndK (L := 8200) (by decide)) (Int.le_refl _) (f37.nrs 1063 0 (by decide)) (f37.nrs 1065 0 (by decide)) (f37.nrs 1070 0 (by decide))
          · rw [f37.nrs 1098 0 (by decide), j3]; omega
          · rw [f37.nrs 1098 0 (by decide), j3, show ((path.length : Nat) : Int) + 1 - 1 = ((path.length : Nat) : Int) by omega, f37.nra 1071 0 _ (by decide)]; exact j5
          · rw [f37.nrs 1098 0 (by decide), j3, show ((path.length : Nat) : Int) + 1 - 1 = ((path.length : Nat) : Int) by omega, f37.nra 1090 0 _ (by decide)]; exact h90
          · rw [f37.nrs 1098 0 (by decide), j3, show ((path.length : Nat) : Int) + 1 - 1 = ((path.length : Nat) : Int) by omega, f37.nra 1091 0 _ (by decide)]; exact h91
    · -- in another way
      rw [r3 hne] at hRR
      dsimp only at hRR
      rw [if_pos hne] at hRR
      exact hErr (by rw [← hRR]; exact hne) σ' (by rw [← hRR]; exact he)
end ZUc
