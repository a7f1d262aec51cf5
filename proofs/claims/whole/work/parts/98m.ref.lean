/-! The levels, one behind another: the reference. -/
section ZUd
variable {n : Nat} {σ0 σ σ1 : jS} {β : List (Int × Int)} {x cl cu : Int} {P : zP} {s0 s : zS} {path : List (Int × Int)} {LP : jS → Prop} {ask : Int → zS → Int → zS × zQ} {R : zS × zQ}
set_option maxRecDepth 8000 in
theorem t_seek {nA nS : Nat} (hLP : ∀ σ, rs σ 1099 0 = -1 → 0 < rs σ 1098 0 → TrV nS i_Model_step [jo 1 0] σ LP → LP σ) (hnS : nA + 10 ≤ nS) (hask : ∀ k, 0 ≤ k → k < tG P.1 → askMC P nA LP (ask k) (path ++ [(k, x)])) (hR : ∀ k s y, gok s → 0 ≤ y → y < hN s → askR s (ask k s y) 0 0 0) (hI : ∀ k, askI (ask k)) (hT : tok P.1) (hd : path.length < 20) (x0 : 0 ≤ x) (x1 : x < hN s0) (hgs0 : gok s0) (hrep0 : rep (hG s0) (hN s0) β (hE s0)) (hxl : (ex (hG s0) (hN s0) β x).length ≤ 100) (hpath : ∀ p, p ∈ path → 0 ≤ p.2 ∧ p.2 < hN s0) (hS97 : 0 ≤ rs σ0 1097 0) (hsv : rs σ0 1097 0 ≤ 100 * ((path.length : Nat) : Int) + zu (hG s0) (hN s0)) (hbN : hN s0 + 120 ≤ 12 + 120 * sA s0) (hbp : rs σ0 1034 0 + 120 ≤ 12 + 120 * sA s0) (hbz : (zu (hG s0) (hN s0) : Int) + 52 ≤ 12 + 52 * sA s0)
    (hErr : ¬ R.2.1 = 0 → ∀ σ', mErr σ0 σ' R → LP σ')
    (hFound : ∀ (sc lvl cds : Int) (C' : List Int) (r : Int → Bool) (s' : zS) (o : Int × List zI × List (Int × Int)) (fl' : Int) (σ' : jS), C' = (zrg (tG P.1)).filter r → R = (((hG s', hN s', o.2.2), s'.2), (0, some (.inl (o.1, lvl, cds, fl', ((C'.length : Nat) - ((bstL P.1 C').length : Nat) : Int), tN P.1 o.1, x, none) :: o.2.1), noQ)) → fInv P σ0 σ' s0 s' path β x cl cu cds lvl sc C' fl' 24 (some o) none → TrV (nS - 1) i_Model_leaveFound [jo 1 0, ji ((path.length : Nat) : Int)] σ' LP)
    (hNone : ∀ s' σ', R = (s', 0, none, noQ) → fBas P σ0 σ' s0 s' path β x cl cu → TrV (nS - 1) i_Model_leave [jo 1 0, ji ((path.length : Nat) : Int), ji (-1)] σ' LP) :
    ∀ (m : Nat) (sc lvl : Int) (s : zS) (σ1 : jS) (nO : Nat), 4 ≤ nO → spSeek P ask path x m sc lvl s = R → fBas P σ0 σ1 s0 s path β x cl cu → 0 ≤ sc → sc < tS P.1 → tL P.1 sc < ((m : Nat) : Int) → 0 ≤ lvl → lvl + ((m : Nat) : Int) ≤ 6 → pot s + 24 * ((m : Nat) : Int) ≤ 200 → TrV nO i_Model_openLevel [jo 1 0, ji ((path.length : Nat) : Int), ji sc, ji lvl] σ1 LP := by
  intro m
  induction m with
  | zero =>
    intro sc lvl s σ1 nO hnO hRR hb sc0 sc1 hL l0 l1 hp
    have := (hT.2.2.2.2.1 sc sc0 sc1).2.1
    omega
  | succ m ih =>
    intro sc lvl s σ1 nO hnO hRR hb sc0 sc1 hL l0 l1 hp
    have hb0 := hb
    obtain ⟨-, jB, ⟨j3, j3b⟩, ⟨j4, j4b, hgs, ⟨g1, g2, g3, g4, g5, g6⟩, hok, hsA⟩, ⟨j5, -, -, -⟩, j8, o3, o4, o5⟩ := hb
    have hA200 := hok.2.1
    have hcl := canL_len (P := P) (s := s) (x := x) (sc := sc) hT
    have hRO := rounds_R (path := path) (lvl := lvl) (cds := ((canL P s x sc).length : Nat)) (x := x) (B := s) hT hR hgs x0 (by omega) 24 (canL P s x sc) s 0 (fun k hk => ⟨(canL_mem.mp hk).1, (canL_mem.mp hk).2.1⟩) (Int.le_refl _) hA200 rfl
    unfold spSeek at hRR
    generalize hTT : spRounds P ask path x lvl ((canL P s x sc).length : Nat) 24 (canL P s x sc) s 0 = T at hRR hRO
    obtain ⟨r1, r2, r3, r4, r5⟩ := hRO
    refine t_openLevel (x := x) (by omega) jB j4 j4b hgs x0 (by omega) (by rw [g5, g6]; exact hxl) (by omega) (by omega) (by rw [g5, g6]; omega) sc0 sc1 (by omega) (by omega) j5 (fun σ' q k kp T' p34 hv h76 h79 => ?_)
    obtain ⟨v74, v75, v77, v78, v80, v89⟩ := hv
    have hb' := hb0.sq q k kp T' p34
    have hF' : fInv P σ0 σ' s0 s path β x cl cu ((canL P s x sc).length : Nat) lvl sc (canL P s x sc) 0 0 none none := hb'.inv v74 v75 v77 v78 v80 v89 h76 h79 (Int.le_refl _)
    refine hLP σ' hb'.2.1.2.2.2.2.2.2.1 (by have := hb'.2.2.1.1; omega) (wp_Model_step ⟨by omega, by rw [hb'.2.2.1.1]; exact ⟨by omega, by omega⟩, ?_⟩)
    rw [if_pos hb'.2.2.1.2, hb'.2.2.1.1, show ((path.length : Nat) : Int) + 1 - 1 = ((path.length : Nat) : Int) by omega]
    refine t_rounds (R := T) hLP hnS hask hR hI hT hd x0 x1 hgs0 hrep0 hxl hpath hS97 hsv hbN hbp hbz ⟨sc0, sc1⟩ ⟨l0, by omega⟩ (fun hne σ2 he => ?_) (fun C' r s' o fl' σ2 hC' hT2 hF2 => ?_) (fun s' σ2 hT2 hb2 => ?_) 24 (canL P s x sc) s 0 σ' hcl hTT hF' ⟨_, rfl⟩ (fun k hk => ?_) (by omega) (by omega)
    · rw [r3 hne] at hRR
      dsimp only at hRR
      rw [if_pos hne] at hRR
      exact hErr (by rw [← hRR]; exact hne) σ2 (by rw [← hRR]; exact he)
    · subst hT2
      exact hFound sc lvl _ C' r s' o fl' σ2 hC' hRR.symm hF2
    · subst hT2
      dsimp only at hRR r1
      rw [if_neg (fun w => w rfl)] at hRR
      have hpo := r1.2.2.2.2.2.2.1
      have hsx := hT.2.2.2.2.1 sc sc0 sc1
      by_cases qa : tA P.1 sc = -1
      · rw [if_pos qa] at hRR ⊢
        exact hNone s' σ2 hRR.symm hb2
      · rw [if_neg qa] at hRR ⊢
        rcases hsx.1 with w | w
        · exact absurd w.1 qa
        · exact ih (tA P.1 sc) (lvl + 1) s' σ2 (nS - 1) (by omega) hRR hb2 w.1 (by omega) (by omega) (by omega) (by omega) (by omega)
    · have := (canL_mem.mp hk).2.2.2.2.2
      rw [g5, g6, g4] at this
      exact this
end ZUd
