/-! A goal is asked: the class. -/
section ZMd
variable {n : Nat} {σ σ1 σ2 : jS} {P : zP} {s : zS} {path β : List (Int × Int)} {x me : Int} {R : zS × zQ} {r : List Int} {g : zH} {N : Int}
theorem sPost_sq (h : sPost P σ σ1 s path β x me R) (e : sq (fF 243) σ1 σ2) : sPost P σ σ2 s path β x me R := by
  have q : cq (fF 243) σ1 σ2 := e.cq (by decide)
  obtain ⟨h1, h2, h3, h4, h5, ⟨h6, h6b⟩, ⟨nw, g', N', u1, u2, u3, u4, u5⟩, h9⟩ := h
  have e61 : ra σ2 6001 1 = ra σ1 6001 1 := e.nraf 6001 1 (by decide)
  have e60 : rs σ2 6000 1 = rs σ1 6000 1 := e.nrs 6000 1 (by decide)
  refine ⟨h1.tr (q.aq (fun p hp => ?_)), cB_cq2 h2 q (by decide) (by decide) (by decide) (nofl3 (by decide)), by rw [e.nrs 7017 0 (by decide)]; exact h3, fun w => ?_, fun z hz => by rw [e.nra 7012 0 z (by decide)]; exact h5 z hz, ⟨by rw [e60]; exact h6, fun i i0 i1 w0 w3 w4 w5 => by rw [e61]; exact h6b i i0 i1 w0 w3 w4 w5⟩, ⟨nw, g', N', u1.sq e (by decide), u2, u3, fun w w2 => ?_, fun t ht => ?_⟩, fun w => ?_⟩
  · have : ∀ p, p ∈ fF 243 → askFp p.1 p.2 := by unfold askFp fF; decide
    exact this p hp
  · obtain ⟨c1, c2⟩ := h4 w
    exact ⟨by rw [e.nrs 9002 0 (by decide)]; exact c1, fun i i0 i1 => by rw [e.nra 9007 0 i (by decide)]; exact c2 i i0 i1⟩
  · obtain ⟨c1, c2, c3, c4⟩ := u4 w w2
    exact ⟨c1, c2, c3, by rw [e60]; exact c4⟩
  · obtain ⟨c1, c2, c3, c4, k, l, c, f, u, sub, e1, d0, d3, d4, d5, d6, d7, d8⟩ := u5 t ht
    refine ⟨c1, c2, c3, c4, k, l, c, f, u, sub, e1, by rw [e61]; exact d0, by rw [e61]; exact d3, by rw [e61]; exact d4, by rw [e61]; exact d5, planS_cong (fun i _ _ => by rw [e61]) d6, by rw [e60]; exact d7, d8⟩
  · obtain ⟨c1, c2, c3⟩ := h9 w
    refine ⟨by rw [e.nrs 7004 0 (by decide)]; exact c1, by rw [e.nrs 7005 0 (by decide)]; exact c2, ?_⟩
    unfold fT at c3 ⊢
    rw [e.nrs 1 242 (by decide), e.nrl 0 242, e.nraf 0 242 (by decide)]
    exact c3
/-- what is remembered has no room any more -/
theorem c_remember0 {Q : jS → Prop} {v : Int} (hn : 7 ≤ n) (hB : cB σ P s path) (hT : cT σ g N β) (ha : acy g N β) (x0 : 0 ≤ x) (x1 : x < N) (hrow : cno [] (ex g N β x) = r) (hrl : r.length ≤ 100) (hr2 : ∀ t, t ∈ r → t < 104) (h40 : ¬ (sM s).length < 40) (hq : ∀ σ', sq (fF 243) σ σ' → Q σ') : TrV n i_Search_remember [jo 7 0, ji x, ji me, ji v] σ Q := by
  have hC := hB.2.1
  have t70 := cC_at hC 7000 0 0 (by decide)
  have t78 := cC_at hC 7008 0 243 (by decide)
  have g243 : rl σ 0 243 = 100 := hC.2.1 (243, 100) (by decide)
  have len1 := cno_len (ex g N β x) []
  refine wp_Search_remember ⟨by omega, by omega, by omega, ?_⟩
  rw [t70, t78]
  refine c_flatten (by omega) hT ha (by omega) g243 x0 x1 (fun σ1 f1 r1 => ?_)
  have q1 : cq (fF 243) σ σ1 := f1.cq (by decide)
  have B1 : cB σ1 P s path := cB_cq2 hB q1 (by decide) (by decide) (by decide) (nofl3 (by decide))
  have C1 := B1.2.1
  have hr1 : fT σ1 243 r := by
    rw [← hrow]
    rw [← hrow, len1] at hrl
    exact r1.fT hrl (by omega) (by rw [f1.nrl]; exact g243)
  rw [cC_at C1 7001 0 0 (by decide), cC_at C1 7008 0 243 (by decide), B1.2.2.2.1.2.2.1]
  refine ⟨by omega, c_takes (by omega) B1.1 B1.2.2.2.2.2.2.1 hr1 hrl hr2 (fun w _ => absurd w h40) (fun _ => ?_)⟩
  rw [if_neg (fun w => w rfl)]
  exact hq σ1 f1
end ZMd
section ZMc
variable {n : Nat} {P : zP}
set_option maxRecDepth 8000 in
theorem c_askGoal (hsc : 0 ≤ P.2.2.2.1 ∧ P.2.2.2.1 < tS P.1) : ∀ (m : Nat) (path : List (Int × Int)), 1 ≤ m → m + path.length = 21 → askC P (5 * m + 20) (fun s y => askS P m path s y) path := by
  intro m
  induction m with
  | zero => intro path h; omega
  | succ m ih =>
    intro path _ hmp s y a b β σ Q hB hH h0 hst y0 y1 hbN hbz hsv hpath hq
    dsimp only at hq
    have hH0 := hH
    obtain ⟨hcT, hrep, hgk⟩ := hH
    have hT : tok P.1 := hB.2.2.1.1
    have hz := hgk.1
    have hC := hB.2.1
    obtain ⟨b1, b2, b3, b4, b5⟩ := hB.2.2.2.2.1
    obtain ⟨n1, n2, n3, n4, n5, n6, n7, n8, n9⟩ := h0
    obtain ⟨p0, p1, p2, p3⟩ := hB.2.2.2.2.2.2.2.1
    have l02 := cln_at hB.1 7002 0 9 (by decide)
    -- an asking that ends so
    have err : ∀ (e : Int) (σ1 : jS), ¬ e = 0 → ¬ e = 2 → sq ((7017, 0) :: icF) σ σ1 → rs σ1 7017 0 = e → askS P (m + 1) path s y = (s, e, none, noQ) → Q 0 σ1 := by
      intro e σ1 e0 e2 f1 r1 hAE
      have q1 : cq ((7017, 0) :: icF) σ σ1 := f1.cq (by decide)
      refine hq 0 σ1 ?_ (by rw [hAE]) (fun t ht => by rw [hAE] at ht; cases ht)
      rw [hAE]
      refine ⟨q1.aq (fun p hp => ?_), cB_cq2 hB q1 (by decide) (by decide) (by decide) (nofl3 (by decide)), r1, fun w => absurd w e0, fun z _ => by rw [f1.nra 7012 0 z (by decide)], ⟨by rw [f1.nrs 6000 1 (by decide)]; exact Int.le_refl _, fun i _ _ => by rw [f1.nra 6001 1 i (by decide)]⟩, ⟨[], hG s, hN s, hcT.sq f1 (by decide), agr.rf _ _, Int.le_refl _, fun t ht => by cases ht⟩, fun w => absurd w e2⟩
      have : ∀ p, p ∈ ((7017, 0) :: icF : List (Nat × Int)) → askFp p.1 p.2 := by unfold askFp icF; decide
      exact this p hp
    generalize hr : rowE (hG s) (hN s) (hE s) y = r
    have hrow : r = cno [] (ex (hG s) (hN s) β y) := by rw [← hr]; exact rowE_eq hz hrep y0 y1
    refine wp_Search_askGoal ⟨by omega, by omega, ?_⟩
    refine c_mayAsk (n := 5 * (m + 1) + 20 - 1) (d := ((path.length : Nat) : Int)) (by omega) hcT hrep hC y0 y1 (fun w => ?_) (fun w w2 => ?_) (fun w w2 w3 σ1 f1 => ?_) (fun w w2 w3 σ1 f1 t1 => ?_)
    · rw [if_neg (fun q => q rfl)]
      refine err 3 _ (by decide) (by decide) ((sq.rf _ σ).pws 7017 0 3 (by decide)) (by rw [rs_ws, if_pos ⟨rfl, rfl⟩]) ?_
      unfold askS
      rw [if_pos (by omega)]
    · rw [if_neg (fun q => q rfl)]
      refine err 4 _ (by decide) (by decide) ((sq.rf _ σ).pws 7017 0 4 (by decide)) (by rw [rs_ws, if_pos ⟨rfl, rfl⟩]) ?_
      unfold askS
      rw [if_neg (by omega), if_pos (by omega)]
    · rw [if_neg (fun q => q rfl)]
      refine err 5 _ (by decide) (by decide) ((f1.mo (by decide)).pws 7017 0 5 (by decide)) (by rw [rs_ws, if_pos ⟨rfl, rfl⟩]) ?_
      unfold askS
      rw [if_neg (by omega), if_neg (by omega), if_pos w3]
    rw [hr] at w3 t1
    rw [if_pos (by decide)]
    have hpl : path.length < 20 := by omega
    have hrl : r.length ≤ 100 := by omega
    have hr2 : ∀ t, t ∈ r → t < 104 := by
      rw [hrow]
      exact cno_lt (ex_lt hz hrep.1 hrep.2.1 y0 y1)
    have q1 : cq icF σ σ1 := f1.cq (by decide)
    have B1 : cB σ1 P s path := cB_cq2 hB q1 (by decide) (by decide) (by decide) (nofl3 (by decide))
    rw [f1.nrl 7002 0, l02, f1.nra 7002 0 1 (by decide), b1]
    refine ⟨by omega, by omega, ⟨by omega, by omega⟩, fun s8 e8 => ?_⟩
    have f8 : sq [(7002, 0)] σ1 s8 := by rw [e8]; exact (sq.rf _ σ1).pwa 7002 0 _ _ (by decide)
    have r8 : ra s8 7002 0 = upI (ra σ 7002 0) 1 (sA s + 1) := by
      rw [e8]
      unfold wa
      rw [raf_wA, if_pos ⟨rfl, rfl⟩, f1.nraf 7002 0 (by decide)]
    have r87 : ra s8 7002 0 7 = sD s := by rw [r8]; unfold upI; rw [if_neg (by decide)]; exact b5
    rw [f8.nrl 7002 0, f1.nrl 7002 0, l02, r87]
    refine ⟨by omega, by omega, ⟨by omega, by omega⟩, fun s12 e12 => ?_⟩
    have f12 : sq [(7002, 0)] σ1 s12 := by rw [e12]; exact f8.pwa 7002 0 _ _ (by decide)
    have r12 : ra s12 7002 0 = upI (upI (ra σ 7002 0) 1 (sA s + 1)) 7 (max (sD s) (((path.length : Nat) : Int) + 1)) := by
      rw [e12]
      unfold wa
      rw [raf_wA, if_pos ⟨rfl, rfl⟩, r8]
    clear e8 e12
    generalize hs1 : ((s.1, sM s, sA s + 1, sMt s, sC s, sTr s, max (sD s) (((path.length : Nat) : Int) + 1)) : zS) = s1
    have B2 : cB s12 P s1 path := by
      rw [← hs1]
      refine cB_cut B1 (f12.cq (l' := [(7002, 0)]) (by decide)) (by decide) (by decide) (by decide) (nofl3 (by decide)) ?_ rfl (by show sA s ≤ sA s + 1; omega)
      unfold tly
      rw [r12]
      unfold upI
      refine ⟨?_, ?_, ?_, ?_, ?_⟩
      · rw [if_neg (by decide), if_pos rfl]; rfl
      · rw [if_neg (by decide), if_neg (by decide)]; exact b2
      · rw [if_neg (by decide), if_neg (by decide)]; exact b3
      · rw [if_neg (by decide), if_neg (by decide)]; exact b4
      · rw [if_pos rfl]; rfl
    have v60 : rs s12 6000 1 = rs σ 6000 1 := by rw [f12.nrs 6000 1 (by decide), f1.nrs 6000 1 (by decide)]
    have v61 : ra s12 6001 1 = ra σ 6001 1 := by rw [f12.nraf 6001 1 (by decide), f1.nraf 6001 1 (by decide)]
    have eA : sA s1 = sA s + 1 := by rw [← hs1]; rfl
    refine c_addToPlan (by omega) B2 (by rw [v60, eA]; omega) (by rw [eA]; omega) (fun σ3 q3 t3 B3 lo3 c31 c32 c36 c37 => ?_)
    rw [v60] at lo3 c31 c32 c36 c37 t3 ⊢
    rw [v61] at lo3
    generalize hme : rs σ 6000 1 = me at p0 p1 p2 lo3 c31 c32 c36 c37 t3 ⊢
    -- what has changed so far
    have aq3 : aq σ σ3 := by
      refine ((q1.aq (fun p hp => ?_)).tr ((f12.cq (l' := [(7002, 0)]) (by decide)).aq (fun p hp => ?_))).tr (q3.aq (fun p hp => ?_))
      · have : ∀ p, p ∈ icF → askFp p.1 p.2 := by unfold askFp icF; decide
        exact this p hp
      · simp at hp
        rw [hp]; unfold askFp; simp
      · simp at hp
        unfold askFp
        rcases hp with w | w <;> rw [w] <;> simp
    have k17 : rs σ3 7017 0 = 0 := by rw [q3.nrs 7017 0 (by decide) (by decide), f12.nrs 7017 0 (by decide), f1.nrs 7017 0 (by decide)]; exact hst
    have k902 : rs σ3 9002 0 = rs σ 9002 0 := by rw [q3.nrs 9002 0 (by decide) (by decide), f12.nrs 9002 0 (by decide), f1.nrs 9002 0 (by decide)]
    have k907 : ra σ3 9007 0 = ra σ 9007 0 := by rw [q3.nraf 9007 0 (by decide) (by decide), f12.nraf 9007 0 (by decide), f1.nraf 9007 0 (by decide)]
    have k712 : ra σ3 7012 0 = ra σ 7012 0 := by rw [q3.nraf 7012 0 (by decide) (by decide), f12.nraf 7012 0 (by decide), f1.nraf 7012 0 (by decide)]
    have cT3 : cT σ3 (hG s) (hN s) β := ((hcT.sq f1 (by decide)).sq f12 (by decide)).cq q3 (by decide)
    have t243 : fT σ3 243 r := (t1.sq f12 (by decide)).cq q3 (by decide)
    have C3 := B3.2.1
    have eG : hG s1 = hG s := by rw [← hs1]; rfl
    have eN : hN s1 = hN s := by rw [← hs1]; rfl
    have eE : hE s1 = hE s := by rw [← hs1]; rfl
    have eM : sM s1 = sM s := by rw [← hs1]; rfl
    have eC : sC s1 = sC s := by rw [← hs1]; rfl
    have ok1 : nOk s1 := by
      rw [← hs1]
      refine ⟨by show 0 ≤ sA s + 1; omega, by show sA s + 1 ≤ 200; omega, n3, by show sMt s ≤ sA s + 1; omega, n5, n6, by show sTr s + sC s - 144 * (sA s + 1) ≤ 200; unfold pot at n7; omega, by show 0 ≤ max (sD s) (((path.length : Nat) : Int) + 1); omega, by show max (sD s) (((path.length : Nat) : Int) + 1) ≤ 20; omega⟩
    have pot1 : pot s1 ≤ 56 := by
      rw [← hs1]
      show sTr s + sC s - 144 * (sA s + 1) ≤ 56
      unfold pot at n7
      omega
    have gk1 : gok s1 := by
      refine ⟨by rw [eG, eN]; exact hgk.1, by rw [eN]; exact hgk.2.1, by rw [eN, eE]; exact hgk.2.2.1, by rw [eA]; omega⟩
    have rep1 : repI s1 := by unfold repI; rw [eG, eN, eE]; exact ⟨β, hrep⟩
    have hxl : (ex (hG s1) (hN s1) β y).length ≤ 100 := by
      rw [eG, eN]
      have := cno_len (ex (hG s) (hN s) β y) []
      rw [← hrow] at this
      omega
    -- what it comes to
    generalize hRR : spSeek P (fun k s' y' => askS P m (path ++ [(k, y)]) s' y') path y 6 P.2.2.2.1 0 s1 = R
    have hres : repI R.1 ∧ stpI s1 R.1 (fun v => v = y) → True := fun _ => trivial
    have hseekI := seek_I (P := P) (ask := fun k s' y' => askS P m (path ++ [(k, y)]) s' y') (path := path) (x := y) (B := s1) hT (fun k s y => ask_R hT m _ s y) (fun k => ask_I hT m _) gk1 rep1 y0 (by rw [eN]; exact y1) 6 P.2.2.2.1 0 s1 (Int.le_refl _) gk1.2.2.2 rfl
    rw [hRR] at hseekI
    have hask : (if (P.2.2.2.2 && clsd r) = true then fndM (sM s) P.2.2.2.1 r else none) = none → askS P (m + 1) path s y = spKeep P r s R := fun w => by
      unfold askS
      rw [if_neg (by omega), if_neg (by omega), if_neg (by rw [hr]; omega), hr, w]
      dsimp only
      rw [hs1, hRR]
    have seekC : ∀ (K : Int → jS → Prop), (∀ v σ4, sPost P σ3 σ4 s1 path β y me R → (v = match R.2.2.1 with
        | none => 0
        | some t => ((expT (sM R.1) t).length : Int)) → K v σ4) → TrI (5 * (m + 1) + 20 - 1) i_Search_seek [jo 7 0, ji y, ji (path.length : Nat), ji me] σ3 K := by
      intro K hK
      refine c_seek (ask := fun k s' y' => askS P m (path ++ [(k, y)]) s' y') (s0 := s1) (β := β) (by omega) (fun k k0 k1 => ?_) (fun k s y => ask_R hT m _ s y) hT hpl B3 ⟨by rw [eG, eN]; exact cT3, by rw [eG, eN, eE]; exact hrep, gk1⟩ ok1 k17 y0 (by rw [eN]; exact y1) hxl p0 (by rw [t3]; omega) (fun p hp => by rw [eN]; exact hpath p hp) (by rw [k902, eG, eN]; exact hsv) (by rw [eN, eA]; omega) (by rw [eG, eN, eA]; omega) hsc pot1 (by rw [hRR]; exact hK)
      have := ih (path ++ [(k, y)]) (by omega) (by rw [List.length_append, List.length_singleton]; omega)
      rw [show 5 * (m + 1) + 20 - 1 - 1 - 1 - 1 - 1 = 5 * m + 20 by omega]
      exact this
    -- rows that stay
    have low : ∀ σ4, sPost P σ3 σ4 s1 path β y me R → rs σ 6000 1 ≤ rs σ4 6000 1 ∧ ∀ i, 0 ≤ i → i < rs σ 6000 1 * 8 → ra σ4 6001 1 i = ra σ 6001 1 i := fun σ4 hp => by
      obtain ⟨-, -, -, -, -, ⟨h6, h7⟩, -⟩ := hp
      rw [hme]
      refine ⟨by omega, fun i i0 i1 => ?_⟩
      rw [h7 i i0 (by omega) (by omega) (by omega) (by omega) (by omega), lo3 i i0 (by omega)]
    have plan : ∀ σ4, sPost P σ3 σ4 s1 path β y me R → ∀ t, R.2.2.1 = some t → planS σ4 me [(a, b)] t ∧ rs σ4 6000 1 = me + (t.length : Nat) ∧ rdA (t.map arI) 1 = some [] ∧ (∀ m : Nat, .inr m ∈ t → m < (sM R.1).length) ∧ 0 < (expT (sM R.1) t).length ∧ (expT (sM R.1) t).length ≤ 200 := fun σ4 hp t ht => by
      obtain ⟨-, -, -, -, -, ⟨h6, h7⟩, ⟨nw, g', N', -, -, -, -, h8⟩, -⟩ := hp
      obtain ⟨-, -, -, -, k, l, c, f, u, sub, e1, c0, c3, c4, c5, d1, d2, d3, d4, d5⟩ := h8 t ht
      have e7 : ∀ j : Int, 0 ≤ j → j < 8 → ¬ j = 0 → ¬ j = 3 → ¬ j = 4 → ¬ j = 5 → ra σ4 6001 1 (me * 8 + j) = ra σ3 6001 1 (me * 8 + j) := fun j j0 j1 w0 w3 w4 w5 => h7 _ (by omega) (by omega) (by omega) (by omega) (by omega) (by omega)
      rw [e1]
      refine ⟨⟨⟨?_, ?_, c0, c3, c4, c5, ?_, ?_⟩, ?_⟩, ?_, ?_, ?_, ?_, ?_⟩
      · rw [e7 1 (by decide) (by decide) (by decide) (by decide) (by decide) (by decide)]; exact c31
      · rw [e7 2 (by decide) (by decide) (by decide) (by decide) (by decide) (by decide)]; exact c32
      · rw [e7 6 (by decide) (by decide) (by decide) (by decide) (by decide) (by decide)]; exact c36
      · rw [e7 7 (by decide) (by decide) (by decide) (by decide) (by decide) (by decide)]; exact c37
      · show planS σ4 (me + 1) (tslots me (tN P.1 k).toNat ++ []) sub
        rw [List.append_nil, ← t3]
        exact d1
      · rw [d2, t3, List.length_cons]; omega
      · show rdA (sub.map arI) (0 + (tN P.1 k).toNat) = some []
        rw [Nat.zero_add]; exact d3
      · intro m' hm'
        rcases List.mem_cons.mp hm' with w | w
        · cases w
        · exact d4 m' w
      · rw [expT_inl, List.length_cons]; omega
      · rw [expT_inl, List.length_cons]; omega
    -- it is not remembered
    have finA : ∀ v σ4, sPost P σ3 σ4 s1 path β y me R → (v = match R.2.2.1 with
        | none => 0
        | some t => ((expT (sM R.1) t).length : Int)) → askS P (m + 1) path s y = R → Q v σ4 := by
      intro v σ4 hp hv hAE
      have hlow := low σ4 hp
      have hpla := plan σ4 hp
      obtain ⟨h1, h2, h3, h4, h5, -, ⟨nw, g', N', u1, u2, u3, u4, u5⟩, h9⟩ := hp
      refine hq v σ4 ?_ (by rw [hAE]; exact hv) (fun t ht => ?_)
      · rw [hAE]
        refine ⟨aq3.tr h1, h2, h3, fun w => ?_, fun z hz => by rw [h5 z hz, k712], hlow, ⟨nw, g', N', u1, by rw [← eG, ← eN]; exact u2, by rw [← eN]; exact u3, fun t ht => ?_⟩, h9⟩
        · have := h4 w
          rw [k902, k907] at this
          exact this
        · obtain ⟨c1, c2, c3, c4, -⟩ := u5 t ht
          obtain ⟨d1, d2, d3, d4, -⟩ := hpla t ht
          rw [eG, eN] at c4
          rw [hme]
          exact ⟨c1, c2, c3, c4, d1, d2, d3, d4⟩
      · rw [hAE] at ht ⊢
        exact (hpla t ht).2.2.2.2
    -- it is remembered
    have finB : ∀ v σ4, sPost P σ3 σ4 s1 path β y me R → (v = match R.2.2.1 with
        | none => 0
        | some t => ((expT (sM R.1) t).length : Int)) → P.2.2.2.2 = true → clsd r = true → fndM (sM s) P.2.2.2.1 r = none → R.2.1 = 0 → sC R.1 = sC s → TrV (5 * (m + 1) + 20 - 1) i_Search_remember [jo 7 0, ji y, ji me, ji v] σ4 (fun σ5 => Q v σ5) := by
      intro v σ4 hp hv hrem hcl hnone hR0 hRC
      have hAE := hask (by rw [hrem, hcl]; exact hnone)
      have hp0 := hp
      have hlow := low σ4 hp
      have hpla := plan σ4 hp
      obtain ⟨h1, h2, h3, h4, h5, -, ⟨nw, g', N', u1, u2, u3, u4, u5⟩, h9⟩ := hp
      by_cases q40 : (sM R.1).length < 40
      · have hno : fndM (sM R.1) P.2.2.2.1 r = none := by
          have := ask_once (P := P) (s := s1) (x := y) (m := m) (path := path) hT hsc gk1 rep1 y0 (by rw [eN]; exact y1) (fun p hp => by rw [eN]; exact hpath p hp) hrem (by rw [eG, eN, eE, hr]; exact hcl) (by rw [eM, eG, eN, eE, hr]; exact hnone) (by rw [hRR]; exact hR0) (by rw [hRR, eC]; exact hRC) (by rw [hRR]; exact q40)
          rw [hRR, eG, eN, eE, hr] at this
          exact this
        -- after it has been remembered
        have after : ∀ (σ5 : jS) (Tr1 : List zN) (ot : Option (List zI)), aq σ4 σ5 → gq rmF σ4 σ5 → cB σ5 P (R.1.1, sM R.1 ++ [(P.2.2.2.1, r, Tr1)], R.1.2.2) path → askS P (m + 1) path s y = ((R.1.1, sM R.1 ++ [(P.2.2.2.1, r, Tr1)], R.1.2.2), R.2.1, ot, R.2.2.2) → (∃ new g2 N2, cT σ5 g2 N2 (new ++ β) ∧ agr (hG s) g2 (hN s) ∧ hN s ≤ N2 ∧ ∀ t, ot = some t → g2 = hG R.1 ∧ N2 = hN R.1 ∧ rep g2 N2 (new ++ β) (hE R.1) ∧ (∀ K : Int → Prop, (∀ m, hN s ≤ m → K m) → eclo (hG s) (hN s) β K → K y → (∀ p, p ∈ new → K p.1 ∧ K p.2) ∧ eclo (hG R.1) (hN R.1) (new ++ β) K) ∧ planS σ4 me [(a, b)] t ∧ rs σ4 6000 1 = me + (t.length : Nat) ∧ rdA (t.map arI) 1 = some [] ∧ ∀ m : Nat, .inr m ∈ t → m < (sM R.1).length) → (v = match ot with
            | none => 0
            | some t => ((expT (sM R.1 ++ [(P.2.2.2.1, r, Tr1)]) t).length : Int)) → (∀ t, ot = some t → 0 < (expT (sM R.1 ++ [(P.2.2.2.1, r, Tr1)]) t).length ∧ (expT (sM R.1 ++ [(P.2.2.2.1, r, Tr1)]) t).length ≤ 200) → Q v σ5 := by
          intro σ5 Tr1 ot aq5 gq5 B5 hE5 h7 hv5 hl5
          have g60 : rs σ5 6000 1 = rs σ4 6000 1 := gq5.nrs 6000 1 (by decide) (by unfold rmF mnF pgF; decide)
          have g61 : ra σ5 6001 1 = ra σ4 6001 1 := gq5.nraf 6001 1 (by decide) (by unfold rmF mnF pgF; decide)
          refine hq v σ5 ?_ (by rw [hE5]; exact hv5) (fun t ht => by rw [hE5] at ht ⊢; exact hl5 t ht)
          rw [hE5]
          refine ⟨(aq3.tr h1).tr aq5, B5, ?_, fun w => ?_, fun z hz => ?_, ⟨?_, fun i i0 i1 => ?_⟩, ?_, fun w => ?_⟩
          · rw [gq5.nrs 7017 0 (by decide) (by unfold rmF mnF pgF; decide)]; exact h3
          · have := h4 w
            rw [k902, k907] at this
            rw [gq5.nrs 9002 0 (by decide) (by unfold rmF mnF pgF; decide), gq5.nraf 9007 0 (by decide) (by unfold rmF mnF pgF; decide)]
            exact this
          · rw [gq5.nraf 7012 0 (by decide) (by unfold rmF mnF pgF; decide), h5 z hz, k712]
          · rw [g60]; exact hlow.1
          · rw [g61]; exact hlow.2 i i0 i1
          · obtain ⟨new, g2, N2, v1, v2, v3, v4⟩ := h7
            refine ⟨new, g2, N2, v1, v2, v3, fun t ht => ?_⟩
            obtain ⟨d1, d2, d3, d4, d5, d6, d7, d8⟩ := v4 t ht
            rw [hme]
            refine ⟨d1, d2, d3, d4, planS_cong (fun i _ _ => by rw [g61]) d5, by rw [g60]; exact d6, d7, fun m' hm' => ?_⟩
            show m' < (sM R.1 ++ [(P.2.2.2.1, r, Tr1)]).length
            rw [List.length_append]
            have := d8 m' hm'
            omega
          · exact absurd (hR0.symm.trans w) (by decide)
        have hcond : (P.2.2.2.2 && clsd r) = true ∧ R.2.1 = 0 ∧ sC R.1 = sC s ∧ (sM R.1).length < 40 := ⟨by rw [hrem, hcl]; rfl, hR0, hRC, q40⟩
        rw [show spKeep P r s R = _ from if_pos hcond] at hAE
        cases hot : R.2.2.1 with
        | none =>
          rw [hot] at hAE hv
          obtain ⟨w1, w2, w3, w4⟩ := u4 hR0 hot
          subst w1
          rw [w2, w3, eG, eN] at u1
          have cT4 : cT σ4 (hG s) (hN s) β := u1
          refine c_remember (s := R.1) (g := hG s) (N := hN s) (β := β) (r := r) (Tr1 := []) (a0 := 0) (b0 := 0) (by omega) h2 cT4 hrep.2.1 y0 y1 hrow.symm hrl hr2 q40 hno hv (by decide) (Or.inl rfl) (Or.inl rfl) (fun σ5 aq5 gq5 B5 => ?_)
          refine after σ5 [] none aq5 gq5 B5 ?_ ⟨[], hG s, hN s, cT4.gq aq5 gq5 (by unfold rmF mnF pgF; decide), agr.rf _ _, Int.le_refl _, fun t ht => by cases ht⟩ hv (fun t ht => by cases ht)
          rw [hAE]
          have e2 : R.2 = (R.2.1, none, R.2.2.2) := by rw [← hot]
          show ((R.1.1, sM R.1 ++ [(P.2.2.2.1, r, [])], R.1.2.2), R.2) = _
          rw [e2]
        | some t =>
          rw [hot] at hAE hv
          obtain ⟨c1, c2, c3, c4, -⟩ := u5 t hot
          obtain ⟨d1, d2, d3, d4, d5, d6⟩ := hpla t hot
          obtain ⟨i1, i2, i3⟩ := hseekI t hot
          have hgR : zok (hG R.1) (hN R.1) := i2.1
          rw [c1, c2] at u1 c3
          have hrow1 : rowE (hG R.1) (hN R.1) (hE R.1) y = r := by
            obtain ⟨a1, a2, a3, a4, D, a5, a6⟩ := i2
            have hrep1 : rep (hG s1) (hN s1) β (hE s1) := by rw [eG, eN, eE]; exact hrep
            have := row_cl gk1.1 a1 a3 a2 hrep1 (by rw [← a5]; exact c3) y0 (by rw [eN]; exact y1) (by rw [eG, eN, eE, hr]; exact hcl)
            rw [← a5, eG, eN, eE, hr] at this
            exact this
          have hNle : hN s1 ≤ hN R.1 := i2.2.1
          have hkk : t.map (kepI R.1) = t.map (kpt (rowE (hG R.1) (hN R.1) (hE R.1))) := kep_kpt (fun z hz r hr => ((i3.2 z hz).2.2.2 r hr).2.1)
          have hexl : (expT (sM R.1) (t.map (kpt (rowE (hG R.1) (hN R.1) (hE R.1))))).length = (expT (sM R.1) t).length := expT_kpt t
          have hmO : ∀ m : Nat, .inr m ∈ t → rdA ((memT (sM R.1) m).map arZ) 1 = some [] := fun m' hm' => by
            have hlt := d4 m' hm'
            obtain ⟨-, -, g3, -⟩ := h2.2.2.2.2.2.2.1
            have := (g3 m' hlt).2.2.2.2.2.2.2.2.2.2
            rw [← memT_at hlt] at this
            exact this.resolve_left (i3.1 m' hm')
          have hwh : memO (expT (sM R.1) (t.map (kpt (rowE (hG R.1) (hN R.1) (hE R.1))))) := Or.inr (exp_whole (by rw [arI_kpt]; exact d3) (fun m' hm' => hmO m' (kpt_inr hm')))
          have hv2 : v = ((expT (sM R.1) (t.map (kpt (rowE (hG R.1) (hN R.1) (hE R.1))))).length : Nat) := by rw [hexl]; exact hv
          refine c_remember (s := R.1) (g := hG R.1) (N := hN R.1) (β := nw ++ β) (r := r) (Tr1 := expT (sM R.1) (t.map (kpt (rowE (hG R.1) (hN R.1) (hE R.1))))) (a0 := a) (b0 := b) (by omega) h2 u1 c3.2.1 y0 (by rw [eN] at hNle; omega) ?_ hrl hr2 q40 hno hv2 (by rw [hexl]; exact d6) hwh (Or.inr ⟨t, rowE (hG R.1) (hN R.1) (hE R.1), rfl, d1, d3, p0, d2, ?_, fun m' hm' => ⟨d4 m' hm', i3.1 m' hm'⟩, fun z hz => ?_⟩) (fun σ5 aq5 gq5 B5 => ?_)
          · rw [← hrow1]
            exact (rowE_eq hgR c3 y0 (by rw [eN] at hNle; omega)).symm
          · have x1 := h2.2.2.2.2.2.2.2.1.2.1
            have x2 : sA R.1 ≤ 200 := by
              have := (seek_R (P := P) (ask := fun k s' y' => askS P m (path ++ [(k, y)]) s' y') (path := path) (x := y) (B := s1) hT (fun k s y => ask_R hT m _ s y) gk1 y0 (by rw [eN]; exact y1) 6 P.2.2.2.1 0 s1 (Int.le_refl _) gk1.2.2.2 rfl).1.2.1
              rw [hRR] at this
              exact this
            omega
          · obtain ⟨z1, z2, z3, z4⟩ := i3.2 z hz
            exact ⟨z2, z3, rowE_eq hgR c3 z2 z3⟩
          · have hinr : ∀ m : Nat, .inr m ∈ t.map (kepI R.1) → .inr m ∈ t := fun m' hm' => by rw [hkk] at hm'; exact kpt_inr hm'
            have eex : expT (sM R.1 ++ [(P.2.2.2.1, r, expT (sM R.1) (t.map (kpt (rowE (hG R.1) (hN R.1) (hE R.1)))))]) (t.map (kepI R.1)) = expT (sM R.1) (t.map (kpt (rowE (hG R.1) (hN R.1) (hE R.1)))) := by
              rw [hkk]
              exact expT_app (fun m' hm' => d4 m' (kpt_inr hm'))
            refine after σ5 _ (some (t.map (kepI R.1))) aq5 gq5 B5 ?_ ⟨nw, hG R.1, hN R.1, u1.gq aq5 gq5 (by unfold rmF mnF pgF; decide), ?_, ?_, fun t' ht' => ?_⟩ ?_ (fun t' ht' => ?_)
            · rw [hAE]
              dsimp only
              rw [hkk]
            · rw [← eG, ← eN, ← c1]; exact u2
            · rw [← eN, ← c2]; exact u3
            · have et := Option.some.inj ht'
              rw [eG, eN] at c4
              rw [← et, hkk]
              exact ⟨rfl, rfl, c3, c4, planS_kpt d1, by rw [List.length_map]; exact d2, by rw [arI_kpt]; exact d3, fun m' hm' => d4 m' (kpt_inr hm')⟩
            · show v = ((expT (sM R.1 ++ [(P.2.2.2.1, r, expT (sM R.1) (t.map (kpt (rowE (hG R.1) (hN R.1) (hE R.1)))))]) (t.map (kepI R.1))).length : Int)
              rw [eex]
              exact hv2
            · have et := Option.some.inj ht'
              rw [← et, eex, hexl]
              exact ⟨d5, d6⟩
      · -- no room
        have hE2 : askS P (m + 1) path s y = R := by
          rw [hAE]
          exact if_neg (fun w => q40 w.2.2.2)
        have fin2 : ∀ g2 N2 β2, cT σ4 g2 N2 β2 → acy g2 N2 β2 → y < N2 → cno [] (ex g2 N2 β2 y) = r → TrV (5 * (m + 1) + 20 - 1) i_Search_remember [jo 7 0, ji y, ji me, ji v] σ4 (fun σ5 => Q v σ5) := fun g2 N2 β2 w1 w2 w3 w4 => c_remember0 (by omega) h2 w1 w2 y0 w3 w4 hrl hr2 q40 (fun σ5 f5 => finA v σ5 (sPost_sq hp0 f5) hv hE2)
        cases hot : R.2.2.1 with
        | none =>
          obtain ⟨w1, w2, w3, w4⟩ := u4 hR0 hot
          subst w1
          rw [w2, w3, eG, eN] at u1
          exact fin2 (hG s) (hN s) β u1 hrep.2.1 y1 hrow.symm
        | some t =>
          obtain ⟨c1, c2, c3, c4, -⟩ := u5 t hot
          obtain ⟨i1, i2, i3⟩ := hseekI t hot
          rw [c1, c2] at u1 c3
          have hNle : hN s1 ≤ hN R.1 := i2.2.1
          have hgR : zok (hG R.1) (hN R.1) := i2.1
          have hrow1 : rowE (hG R.1) (hN R.1) (hE R.1) y = r := by
            obtain ⟨a1, a2, a3, a4, D, a5, a6⟩ := i2
            have hrep1 : rep (hG s1) (hN s1) β (hE s1) := by rw [eG, eN, eE]; exact hrep
            have := row_cl gk1.1 a1 a3 a2 hrep1 (by rw [← a5]; exact c3) y0 (by rw [eN]; exact y1) (by rw [eG, eN, eE, hr]; exact hcl)
            rw [← a5, eG, eN, eE, hr] at this
            exact this
          refine fin2 (hG R.1) (hN R.1) (nw ++ β) u1 c3.2.1 (by rw [eN] at hNle; omega) ?_
          rw [← hrow1]
          exact (rowE_eq hgR c3 y0 (by rw [eN] at hNle; omega)).symm
    -- whether it is remembered
    have l02b := cln_at B3.1 7002 0 9 (by decide)
    have k718 := B3.2.2.2.1.2.2.2
    have noK : ¬ (P.2.2.2.2 && clsd r) = true → askS P (m + 1) path s y = R := fun w => by
      rw [hask (if_neg w)]
      exact if_neg (fun u => w u.1)
    have seek72 : ¬ (P.2.2.2.2 && clsd r) = true → J (5 * (m + 1) + 20) c_Search_askGoal (some .int) 72 [some (jo 7 0), some (ji y), some (ji (path.length : Nat)), none, none, some (ji me), none, none, none, none] [] σ3 (qI Q) := fun w => wp_Search_askGoal_72 ⟨by omega, by omega, by omega, by omega, seekC _ (fun v σ4 hp hv => finA v σ4 hp hv (noK w))⟩
    rw [k718]
    by_cases qr : P.2.2.2.2 = true
    · rw [if_pos qr, if_neg (by decide), cC_at C3 7008 0 243 (by decide)]
      have fp := t243.fP (by omega) hr2
      refine ⟨by omega, c_isClosed (by omega) fp (by rw [t243.2.1]; exact t243.2.2.1) ?_⟩
      by_cases qc : clsd r = true
      · rw [if_pos qc, if_neg (by decide), cC_at C3 7001 0 0 (by decide), B3.2.2.2.1.2.2.1, cC_at C3 7008 0 243 (by decide)]
        refine ⟨by omega, c_find (by omega) B3.1 B3.2.2.2.2.2.2.1 t243 hrl hr2 ?_⟩
        rw [eM]
        cases hf : fndM (sM s) P.2.2.2.1 r with
        | none =>
          dsimp only
          rw [if_pos rfl]
          refine ⟨by omega, by omega, seekC _ (fun v σ4 hp hv => ?_)⟩
          have h3 := hp.2.2.1
          have h2 := hp.2.1
          rw [h3]
          have hAE := hask (by rw [hf]; split <;> rfl)
          by_cases q0 : R.2.1 = 0
          · rw [if_neg (fun w => w q0), cln_at h2.1 7002 0 9 (by decide), h2.2.2.2.2.1.2.2.1, B3.2.2.2.2.1.2.2.1, eC]
            refine ⟨by omega, by omega, ?_⟩
            by_cases qC : sC R.1 = sC s
            · rw [if_neg (fun w => w qC)]
              exact finB v σ4 hp hv qr qc hf q0 qC
            · rw [if_pos qC]
              exact finA v σ4 hp hv (by rw [hAE]; exact if_neg (fun w => qC w.2.2.1))
          · rw [if_pos q0]
            exact finA v σ4 hp hv (by rw [hAE]; exact if_neg (fun w => q0 w.2.1))
        | some j =>
          dsimp only
          rw [if_neg (by omega)]
          have hj : j < (sM s).length := by
            unfold fndM at hf
            obtain ⟨h, -⟩ := List.findIdx?_eq_some_iff_getElem.mp hf
            exact h
          refine c_meet (by omega) B3 ok1 p0 (by rw [t3]; omega) (by rw [eM]; exact hj) (fun σ4 f4 B4 r4 => ?_)
          have hAE : askS P (m + 1) path s y = ((s.1, sM s, sA s + 1, sMt s + 1, sC s, sTr s, max (sD s) ((path.length : Nat) + 1)), 0, (if memT (sM s) j = [] then none else some [.inr j]), noQ) := by
            unfold askS
            rw [if_neg (by omega), if_neg (by omega), if_neg (by rw [hr]; omega), hr, if_pos (by rw [qr, qc]; rfl), hf]
          have q4 : cq [(7002, 0), (6001, 1)] σ3 σ4 := f4.cq (by decide)
          have h200 : (memT (sM s) j).length ≤ 200 := by
            obtain ⟨-, -, g3, -⟩ := hB.2.2.2.2.2.2.1
            rw [memT_at hj]
            exact (g3 j hj).2.2.2.2.2.2.2.2.1
          have eex : expT (sM s) [.inr j] = memT (sM s) j := by
            rw [expT_inr]
            exact List.append_nil _
          have ups : ∀ z : Int, ¬ z = me * 8 + 7 → ra σ4 6001 1 z = ra σ3 6001 1 z := fun z hz => by
            rw [r4]
            unfold upI
            rw [if_neg hz]
          refine hq _ σ4 ?_ ?_ (fun t ht => ?_)
          · rw [hAE]
            refine ⟨aq3.tr (q4.aq (fun p hp => ?_)), ?_, ?_, fun _ => ⟨?_, fun i i0 i1 => ?_⟩, fun z _ => ?_, ⟨?_, fun i i0 i1 => ?_⟩, ⟨[], hG s, hN s, cT3.sq f4 (by decide), agr.rf _ _, Int.le_refl _, fun t ht => ?_⟩, fun w => absurd w (by show ¬ (0 : Int) = 2; decide)⟩
            · simp at hp
              unfold askFp
              rcases hp with w | w <;> rw [w] <;> simp
            · rw [← hs1] at B4
              exact B4
            · rw [f4.nrs 7017 0 (by decide)]; exact k17
            · rw [f4.nrs 9002 0 (by decide)]; exact k902
            · rw [f4.nraf 9007 0 (by decide), k907]
            · rw [f4.nraf 7012 0 (by decide), k712]
            · rw [f4.nrs 6000 1 (by decide), t3, hme]; omega
            · rw [hme] at i1
              rw [ups i (by omega)]
              exact lo3 i i0 (by omega)
            · dsimp only at ht
              split at ht
              · cases ht
              · have et := Option.some.inj ht
                rw [← et]
                refine ⟨rfl, rfl, hrep, fun K k1 k2 k3 => ⟨fun p hp => (by cases hp), k2⟩, ?_, ?_, rfl, fun m' hm' => ?_⟩
                · rw [hme]
                  refine ⟨⟨?_, ?_, ?_⟩, trivial⟩
                  · rw [ups _ (by omega)]; exact c31
                  · rw [ups _ (by omega)]; exact c32
                  · show ra σ4 6001 1 (me * 8 + 7) = _
                    rw [r4]
                    unfold upI
                    rw [if_pos rfl]
                · rw [f4.nrs 6000 1 (by decide), t3, hme]
                  rfl
                · have := Sum.inr.inj (List.mem_singleton.mp hm')
                  rw [this]
                  exact hj
          · rw [hAE, eM]
            dsimp only
            by_cases qm : memT (sM s) j = []
            · rw [if_pos qm, qm]; rfl
            · rw [if_neg qm]
              show _ = ((expT (sM s) [.inr j]).length : Int)
              rw [eex]
          · rw [hAE] at ht ⊢
            dsimp only at ht ⊢
            split at ht
            · cases ht
            · rename_i qm
              have et := Option.some.inj ht
              rw [← et]
              show 0 < (expT (sM s) [.inr j]).length ∧ (expT (sM s) [.inr j]).length ≤ 200
              rw [eex]
              refine ⟨?_, h200⟩
              cases hm : memT (sM s) j with
              | nil => exact absurd hm qm
              | cons z l => rw [List.length_cons]; omega
      · rw [if_neg qc, if_pos rfl]
        exact seek72 (by rw [qr]; simpa using qc)
    · rw [if_neg qr, if_pos rfl]
      exact seek72 (fun w => qr (by rw [Bool.and_eq_true] at w; exact w.1))
end ZMc
