/-! Calls in both: what is asked, what would be. -/
section ZAe
variable {n : Nat} {σ σ1 σ2 : jS} {A : zA} {T : zT} {M : zM} {D w r : List Int} {fl O U x y v e k : Int} {Y : Nat → List Int} {as : Option zK} {l : List (Nat × Int)} {P : zP}
theorem as_k1 : ∀ F : Nat, 1000 ≤ F → F < 2000 → ¬ asF F 0 := fun F h1 h2 w => by
  unfold asF rFp askFp asL kpF9 at w
  simp at w
  omega
theorem endE_2 {R : zS × zQ} (h : endE R = 2) : R.2.1 = 2 := by
  unfold endE at h
  by_cases q : R.2.1 = 0
  · rw [if_pos q] at h
    split at h <;> omega
  · rw [if_neg q] at h; exact h
theorem endE_b {R : zS × zQ} (h : 0 ≤ R.2.1 ∧ R.2.1 ≤ 6) : 0 ≤ endE R ∧ endE R ≤ 6 := by
  unfold endE
  split
  · split <;> omega
  · exact h
theorem askT_none (h : ¬ endE (askW P M r) = 0) : askT P M r = [] := by
  unfold askT
  by_cases q : (askW P M r).2.1 = 0
  · rw [if_pos q]
    unfold endE at h
    rw [if_pos q] at h
    cases hR : (askW P M r).2.2.1 with
    | none => rfl
    | some t => rw [hR] at h; exact absurd rfl h
  · rw [if_neg q]
/-- an asking leaves what is good -/
theorem ask_good (hT : tok P.1) (hr : rwk r) (hM : gdM P.1 M) (hm : rmM M) : gdM P.1 (sM (askW P M r).1) ∧ rmM (sM (askW P M r).1) ∧ (0 ≤ endE (askW P M r) ∧ endE (askW P M r) ≤ 6) ∧ ∀ z, z ∈ askT P M r → gdZ P.1 z ∧ rwG (rwZ z) := by
  obtain ⟨o1, o2, o3, ⟨o4, o5⟩, o6, o7⟩ := s00_ok (M := M) (lA_lok hr) hr
  have hR := ask_R hT 21 [] (s00 r M) (x00 r) o2 o4 o5
  refine ⟨(ask_G (P := P) hT 21 [] (s00 r M) (x00 r) hM).1, ask_H hT 21 [] (s00 r M) (x00 r) o2 ⟨[], o1⟩ o4 o5 hm, endE_b hR.2.1, fun z hz => ?_⟩
  by_cases q : endE (askW P M r) = 0
  · obtain ⟨q1, t, q2⟩ := endE_0.mp q
    exact askT_rows hT hr hm hM q1 q2 z hz
  · rw [askT_none q] at hz
    cases hz
set_option maxRecDepth 8000 in
theorem bo_ask (hn : n = 127) (hc : cI σ A) (hm : mI σ A) (hp : pI A) : TrI n i_Top_ask [jo 12 0, ji x] σ (fun r σ1 => scq σ σ1 ∧ TrI n i_Model_ask [jo 1 0, ji x] σ1 (fun r' σ2 => bOK σ r r' σ2)) := by
  obtain ⟨T, M, D, fl, O, U, Y, w, as⟩ := A
  have hm0 := hm
  obtain ⟨z1, z2, z3, ⟨z4, z5, z6⟩, z7, z8, z9⟩ := hc
  have z3 : cTp σ D := z3
  have z1 : cZ σ T M := z1
  have z5 : rs σ 12009 0 = O := z5
  have z6 : rs σ 12010 0 = U := z6
  have hM : gdM T M := hp.1
  have hrm : rmM M := hp.2.1
  obtain ⟨f1, f2⟩ := cAs_f z9
  refine c_ask hn z1 z3 hM z5 z6 f1 f2 (fun hb σ1 e1 v1 v2 => ?_) (fun hk hx σ1 e1 Z1 v1 v2 v3 v4 v5 v6 v7 v8 v9 => ?_)
  · have hm1 := hm0.k1 ((sq_g e1).k1 (nil_k1 (by decide)))
    have sc1 : scq σ σ1 := (sq_g e1).scr (by decide)
    obtain ⟨y1, y2, y3, y4, ⟨y5, y6, y7⟩, y8, y9, y10⟩ := hm1
    have y2 : mTx σ1 T := y2
    have y4 : mTp σ1 D := y4
    have y3 : mMem σ1 M := y3
    have y6 : rs σ1 1015 0 = O := y6
    have y7 : rs σ1 1016 0 = U := y7
    have Z1 := cZ_sq z1 e1 (by decide) (by decide)
    have nob : 0 ≤ x ∧ x < tS T → rdW D = true → False := fun h1 h2 => by
      rcases hb with q | q
      · exact q h1
      · rw [h2] at q; cases q
    refine ⟨sc1, t_ask (by omega) y1 y2 y4 y3 y6 y7 (fun h1 h2 => (nob h1 h2).elim) (fun _ σ2 e2 w1 w2 => ?_) (fun h1 h2 => (nob h1 h2).elim)⟩
    have C1 : cI σ1 (T, M, [], (if 0 ≤ x ∧ x < tS T then (((rdT D 0).2.1 : Nat) : Int) else -1), O, U, Y, w, as) := ⟨Z1, z2.g (sq_g e1) (by decide), cTp_nil v2, ⟨v1, (e1.nrs 12009 0 (by decide)).trans z5, (e1.nrs 12010 0 (by decide)).trans z6⟩, z7.g (sq_g e1) (by decide), z8.g (sq_g e1) (by decide), z9.g (sq_g e1) (by decide)⟩
    exact ⟨rfl, sc1.tr (r1_scr e2 (by decide)), _, C1.r1 e2 (by decide), ⟨y1.sq e2, y2.sq e2 (by decide), y3.sq e2 (by decide), mTp_nil w2, ⟨w1, (e2.nrs 1015 0 (by decide)).trans y6, (e2.nrs 1016 0 (by decide)).trans y7⟩, y8.sq e2 (by decide) (by decide), y9.sq e2 (by decide), y10.sq e2 (by decide)⟩, hp⟩
  · have hrw := rdW_rw hx
    obtain ⟨g1, g2, g3, g4⟩ := ask_good (P := (T, O, U, x, true)) (M := M) z1.2.2.1.1 hrw.1 hM hrm
    have hm1 := hm0.k1 (e1.1.k1 as_k1)
    have sc1 : scq σ σ1 := e1.1.scr (by unfold asF rFp askFp asL kpF9; decide)
    obtain ⟨y1, y2, y3, y4, ⟨y5, y6, y7⟩, y8, y9, y10⟩ := hm1
    have y2 : mTx σ1 T := y2
    have y4 : mTp σ1 D := y4
    have y3 : mMem σ1 M := y3
    have y6 : rs σ1 1015 0 = O := y6
    have y7 : rs σ1 1016 0 = U := y7
    refine ⟨sc1, t_ask (by omega) y1 y2 y4 y3 y6 y7 (fun _ _ => v8) (fun hb _ _ _ => ?_) (fun _ _ σ2 e2 w1 w2 w3 w4 w5 w6 w7 w8 w9 w10 w11 w12 => ?_)⟩
    · exfalso
      rcases hb with q | q
      · exact q hk
      · rw [hx] at q; cases q
    · have C1 : cI σ1 (T, sM (askW (T, O, U, x, true) M (rdT D 0).2.2).1, [], -1, O, U, Y, w, some (endE (askW (T, O, U, x, true) M (rdT D 0).2.2), (askW (T, O, U, x, true) M (rdT D 0).2.2).1, askT (T, O, U, x, true) M (rdT D 0).2.2, (askW (T, O, U, x, true) M (rdT D 0).2.2).2.2.2.1, (askW (T, O, U, x, true) M (rdT D 0).2.2).2.2.2.2.1, (askW (T, O, U, x, true) M (rdT D 0).2.2).2.2.2.2.2, (rdT D 0).2.2, x)) := by
        refine ⟨Z1, z2.g e1.1 (by unfold asF rFp askFp asL kpF9; decide), cTp_nil v2, ⟨v1, ?_, ?_⟩, z7.g e1.1 (by unfold asF rFp askFp asL kpF9; decide), z8.g e1.1 (by unfold asF rFp askFp asL kpF9; decide), v5, v6, fun q => v9 (endE_2 q), v3, v4⟩
        · exact (e1.1 12009 0 (by decide) (by unfold asF rFp askFp asL kpF9; decide)).1.trans z5
        · exact (e1.1 12010 0 (by decide) (by unfold asF rFp askFp asL kpF9; decide)).1.trans z6
      refine ⟨rfl, sc1.tr (r1_scr e2 (by decide)), _, C1.r1 e2 (by decide), ⟨y1.sq e2, y2.sq e2 (by decide), w7, mTp_nil w2, ⟨w1, (e2.nrs 1015 0 (by decide)).trans y6, (e2.nrs 1016 0 (by decide)).trans y7⟩, y8.sq e2 (by decide) (by decide), y9.sq e2 (by decide), w3, w8, w9, fun q => ?_, fun q => ?_, fun q1 q2 => w12 q1 (fun q3 => q2 ?_), w5, w6, w4⟩, g1, g2, ⟨g3, v7, v8, fun q => askT_none q, g4, fun q => ?_, hrw.1, hk.1, hk.2⟩, hp.2.2.2⟩
      · obtain ⟨q1, t, q2⟩ := endE_0.mp q
        rw [askT_root hrm q1 q2]
        exact w10 q
      · obtain ⟨a1, a2, a3, -⟩ := w11 (endE_2 q)
        exact ⟨a1, a2, a3⟩
      · unfold endE
        rw [if_neg (by omega)]
        exact q3
      · obtain ⟨-, -, -, a4, a5⟩ := w11 (endE_2 q)
        exact ⟨a4, a5⟩
theorem bo_asked (hn : n = 127) (hc : cI σ A) (hm : mI σ A) (hp : pI A) : TrI n i_Top_asked [jo 12 0, ji x] σ (fun r σ1 => scq σ σ1 ∧ TrI n i_Model_asked [jo 1 0, ji x] σ1 (fun r' σ2 => bOK σ r r' σ2)) := by
  obtain ⟨T, M, D, fl, O, U, Y, w, as⟩ := A
  rcases as with _ | ⟨e, s, W, a, b, c, r, k⟩
  · have h1 : ra σ 12011 0 0 = -1 := hc.2.2.2.2.2.2.1
    have h2 : rs σ 1051 0 = 0 := hm.2.2.2.2.2.2.2
    have l := cln_at hc.1.1 12011 0 9 (by decide)
    refine wp_Top_asked ⟨by omega, by omega, by omega, ?_⟩
    rw [if_pos h1]
    refine ⟨scq.rf σ, wp_Model_asked ⟨by omega, ?_⟩⟩
    rw [if_pos h2]
    exact bOK.same hc hm hp
  · have hA : aPc σ e s W a b c r k := hc.2.2.2.2.2.2
    have hB : aPm σ e s W a b c r k := hm.2.2.2.2.2.2.2
    have hq : aPp T e W c r k := hp.2.2.1
    exact c_asked hc.1.1 hA hq ⟨scq.rf σ, t_asked (by omega) hm.1 hB (bOK.same hc hm hp)⟩
theorem none_node (hn : 2 ≤ n) (h2 : rs σ 1051 0 = 0) {Q : Int → jS → Prop} (hq : Q 0 σ) : TrI n i_Model_isNode [jo 1 0, ji x] σ Q := by
  refine wp_Model_isNode ⟨by omega, by omega, wp_Model_wasFound ⟨by omega, ?_⟩⟩
  rw [if_pos h2, if_pos rfl]
  exact hq
theorem bo_node (hn : n = 127) (hc : cI σ A) (hm : mI σ A) (hp : pI A) : TrI n i_Top_node [jo 12 0, ji x, ji y] σ (fun r σ1 => scq σ σ1 ∧ TrI n i_Model_node [jo 1 0, ji x, ji y] σ1 (fun r' σ2 => bOK σ r r' σ2)) := by
  obtain ⟨T, M, D, fl, O, U, Y, w, as⟩ := A
  rcases as with _ | ⟨e, s, W, a, b, c, r, k⟩
  · have h1 : cTr σ [] := hc.2.2.2.2.2.2.2
    have h2 : rs σ 1051 0 = 0 := hm.2.2.2.2.2.2.2
    refine c_node (T := T) (by omega) hc.1.2.1 h1 (fun z hz => by cases hz) ⟨scq.rf σ, wp_Model_node ⟨by omega, by omega, none_node (by omega) h2 ?_⟩⟩
    rw [if_neg (fun w => w rfl)]
    have e1 : ndV [] x y = -2 := by
      unfold ndV
      exact if_pos (fun w => by have := w.2; simp at this; omega)
    rw [e1]
    exact bOK.same hc hm hp
  · have hA : aPc σ e s W a b c r k := hc.2.2.2.2.2.2
    have hB : aPm σ e s W a b c r k := hm.2.2.2.2.2.2.2
    have hq : aPp T e W c r k := hp.2.2.1
    exact c_node (T := T) (by omega) hc.1.2.1 hA.2.1 hq.2.2.2.2.1 ⟨scq.rf σ, t_node (by omega) hm.1 hB hq (bOK.same hc hm hp)⟩
/-- something was written -/
theorem bOK.wr {v : List Int} {r : Int} {l' : List (Nat × Int)} (hc : cI σ A) (hm : mI σ A) (hp : pI A) (e1 : sq l σ σ1) (h1 : (([(11000, 0), (11001, 0), (11002, 0), (0, 1), (1, 1)] : List (Nat × Int)).all (fun p => true)) = true) (hl : (l.all (fun p => ([(11000, 0), (11001, 0), (11002, 0), (0, 1), (1, 1)] : List (Nat × Int)).contains p)) = true) (hw : cW σ1 v) (e2 : sq l' σ1 σ2) (hl' : (l'.all (fun p => ([(1132, 0), (1133, 0), (1134, 0)] : List (Nat × Int)).contains p)) = true) (hw2 : mW σ2 v) (hv : v.length ≤ 2000) : bOK σ r r σ2 := by
  have e1 : sq [(11000, 0), (11001, 0), (11002, 0), (0, 1), (1, 1)] σ σ1 := e1.mo hl
  have e2 : sq [(1132, 0), (1133, 0), (1134, 0)] σ1 σ2 := e2.mo hl'
  have hm1 := hm.k1 ((sq_g e1).k1 (nil_k1 (by decide)))
  obtain ⟨T, M, D, fl, O, U, Y, w, as⟩ := A
  obtain ⟨z1, z2, z3, ⟨z4, z5, z6⟩, z7, z8, z9⟩ := hc
  obtain ⟨y1, y2, y3, y4, ⟨y5, y6, y7⟩, y8, y9, y10⟩ := hm1
  have C1 : cI σ1 (T, M, D, fl, O, U, Y, v, as) := ⟨cZ_sq z1 e1 (by decide) (by decide), z2.g (sq_g e1) (by decide), z3.g (sq_g e1) (by decide), ⟨(e1.nrs 12008 0 (by decide)).trans z4, (e1.nrs 12009 0 (by decide)).trans z5, (e1.nrs 12010 0 (by decide)).trans z6⟩, z7.g (sq_g e1) (by decide), hw, z9.g (sq_g e1) (by decide)⟩
  exact ⟨rfl, ((sq_g e1).scr (by decide)).tr (r1_scr e2 (by decide)), _, C1.r1 e2 (by decide), ⟨y1.sq e2, y2.sq e2 (by decide), y3.sq e2 (by decide), y4.sq e2 (by decide), ⟨(e2.nrs 1003 0 (by decide)).trans y5, (e2.nrs 1015 0 (by decide)).trans y6, (e2.nrs 1016 0 (by decide)).trans y7⟩, y8.sq e2 (by decide) (by decide), hw2, y10.sq e2 (by decide)⟩, hp.1, hp.2.1, hp.2.2.1, hv⟩
/-- nothing was written, though rows were used -/
theorem bOK.nw {r : Int} (hc : cI σ A) (hm : mI σ A) (hp : pI A) (e1 : sq wgF σ σ1) (h0 : rs σ1 11000 0 = rs σ 11000 0) (ha : ∀ j, ra σ1 11001 0 j = ra σ 11001 0 j) : bOK σ r r σ1 := by
  have hm1 := hm.k1 ((sq_g e1).k1 (nil_k1 (by decide)))
  refine ⟨rfl, (sq_g e1).scr (by decide), A, ?_, hm1, hp⟩
  obtain ⟨z1, z2, z3, ⟨z4, z5, z6⟩, z7, z8, z9⟩ := hc
  exact ⟨cZ_sq z1 e1 (by decide) (by decide), z2.g (sq_g e1) (by decide), z3.g (sq_g e1) (by decide), ⟨(e1.nrs 12008 0 (by decide)).trans z4, (e1.nrs 12009 0 (by decide)).trans z5, (e1.nrs 12010 0 (by decide)).trans z6⟩, z7.g (sq_g e1) (by decide), ⟨h0.trans z8.1, fun i hi => (ha _).trans (z8.2 i hi)⟩, z9.g (sq_g e1) (by decide)⟩
theorem bo_writeGoal (hn : n = 127) (hc : cI σ A) (hm : mI σ A) (hp : pI A) : TrI n i_Top_writeGoal [jo 12 0, ji x] σ (fun r σ1 => scq σ σ1 ∧ TrI n i_Model_writeGoal [jo 1 0, ji x] σ1 (fun r' σ2 => bOK σ r r' σ2)) := by
  have hc0 := hc
  have hm0 := hm
  have hp0 := hp
  obtain ⟨T, M, D, fl, O, U, Y, w, as⟩ := A
  rcases as with _ | ⟨e, s, W, a, b, c, r, k⟩
  · have h1 : cTr σ [] := hc.2.2.2.2.2.2.2
    refine c_writeGoal (T := T) (by omega) hc.1.1 hc.1.2.1 h1 (by decide) (fun z hz => by cases hz) (fun _ σ1 e1 v1 v2 => ?_) (fun q => absurd q.2 (by have := q.1; simp; omega))
    have hm1 := hm0.k1 ((sq_g e1).k1 (nil_k1 (by decide)))
    have h2 : rs σ1 1051 0 = 0 := hm1.2.2.2.2.2.2.2
    refine ⟨(sq_g e1).scr (by decide), wp_Model_writeGoal ⟨by omega, by omega, none_node (by omega) h2 ?_⟩⟩
    rw [if_pos rfl]
    exact bOK.nw hc0 hm0 hp0 e1 v1 v2
  · have hA : aPc σ e s W a b c r k := hc.2.2.2.2.2.2
    have hq : aPp T e W c r k := hp.2.2.1
    have hl200 : W.length ≤ 200 := by
      rcases hq.2.1 with q | q
      · rw [q]; decide
      · exact q.2.1
    refine c_writeGoal (T := T) (by omega) hc.1.1 hc.1.2.1 hA.2.1 hl200 hq.2.2.2.2.1 (fun hb σ1 e1 v1 v2 => ?_) (fun h1 h2 σ1 e1 hw => ?_)
    · have hm1 := hm0.k1 ((sq_g e1).k1 (nil_k1 (by decide)))
      have hB : aPm σ1 e s W a b c r k := hm1.2.2.2.2.2.2.2
      exact ⟨(sq_g e1).scr (by decide), t_writeGoal (by omega) hm1.1 hB hq (fun _ => bOK.nw hc0 hm0 hp0 e1 v1 v2) (fun w1 w2 => absurd ⟨w1, w2⟩ hb)⟩
    · have hm1 := hm0.k1 ((sq_g e1).k1 (nil_k1 (by decide)))
      have hB : aPm σ1 e s W a b c r k := hm1.2.2.2.2.2.2.2
      refine ⟨(sq_g e1).scr (by decide), t_writeGoal (by omega) hm1.1 hB hq (fun hb => absurd ⟨h1, h2⟩ hb) (fun _ _ σ2 e2 hw2 => bOK.wr hc0 hm0 hp0 e1 (by decide) (by decide) hw e2 (by decide) hw2 ?_)⟩
      have h3 := wrW_len (rwZ (W.getD x.toNat d0z)) []
      have h4 : ([] : List Int).length = 0 := rfl
      omega
theorem bo_writeTree (hn : n = 127) (hc : cI σ A) (hm : mI σ A) (hp : pI A) : TrI n i_Top_writeTree [jo 12 0] σ (fun r σ1 => scq σ σ1 ∧ TrI n i_Model_writeTree [jo 1 0] σ1 (fun r' σ2 => bOK σ r r' σ2)) := by
  have hc0 := hc
  have hm0 := hm
  have hp0 := hp
  obtain ⟨T, M, D, fl, O, U, Y, w, as⟩ := A
  rcases as with _ | ⟨e, s, W, a, b, c, r, k⟩
  · have h1 : cTr σ [] := hc.2.2.2.2.2.2.2
    have h2 : rs σ 1051 0 = 0 := hm.2.2.2.2.2.2.2
    refine c_writeTree (by omega) hc.1.1 hc.1.2.1 h1 (Or.inl rfl) (fun _ => ⟨scq.rf σ, wp_Model_writeTree ⟨by omega, by omega, wp_Model_wasFound ⟨by omega, ?_⟩⟩⟩) (fun q => absurd rfl q)
    rw [if_pos h2, if_neg (fun w => w rfl)]
    exact bOK.same hc0 hm0 hp0
  · have hA : aPc σ e s W a b c r k := hc.2.2.2.2.2.2
    have hq : aPp T e W c r k := hp.2.2.1
    refine c_writeTree (by omega) hc.1.1 hc.1.2.1 hA.2.1 hq.2.1 (fun h0 => ?_) (fun h0 σ1 e1 hw => ?_)
    · have hB : aPm σ e s W a b c r k := hm.2.2.2.2.2.2.2
      exact ⟨scq.rf σ, t_writeTree (by omega) hm.1 hB hq (fun _ => bOK.same hc0 hm0 hp0) (fun w => absurd h0 w)⟩
    · have hm1 := hm0.k1 ((sq_g e1).k1 (nil_k1 (by decide)))
      have hB : aPm σ1 e s W a b c r k := hm1.2.2.2.2.2.2.2
      refine ⟨(sq_g e1).scr (by decide), t_writeTree (by omega) hm1.1 hB hq (fun w => absurd w h0) (fun _ σ2 e2 hw2 => bOK.wr hc0 hm0 hp0 e1 (by decide) (by decide) hw e2 (by decide) hw2 ?_)⟩
      have h3 := trW_len W []
      have h4 : ([] : List Int).length = 0 := rfl
      rcases hq.2.1 with q | q
      · exact absurd q h0
      · have := q.2.1
        omega
theorem bo_writeAnswer (hn : n = 127) (hc : cI σ A) (hm : mI σ A) (hp : pI A) : TrI n i_Top_writeAnswer [jo 12 0] σ (fun r σ1 => scq σ σ1 ∧ TrI n i_Model_writeAnswer [jo 1 0] σ1 (fun r' σ2 => bOK σ r r' σ2)) := by
  have hc0 := hc
  have hm0 := hm
  have hp0 := hp
  obtain ⟨T, M, D, fl, O, U, Y, w, as⟩ := A
  rcases as with _ | ⟨e, s, W, a, b, c, r, k⟩
  · have h0 : ra σ 12011 0 0 = -1 := hc.2.2.2.2.2.2.1
    have h1 : cTr σ [] := hc.2.2.2.2.2.2.2
    have l := cln_at hc.1.1 12011 0 9 (by decide)
    refine wp_Top_writeAnswer ⟨by omega, by omega, by omega, ?_⟩
    rw [if_pos (by omega)]
    refine ⟨by omega, c_writeGoal (T := T) (by omega) hc.1.1 hc.1.2.1 h1 (by decide) (fun z hz => by cases hz) (fun _ σ1 e1 v1 v2 => ?_) (fun q => absurd q.2 (by simp))⟩
    have hm1 := hm0.k1 ((sq_g e1).k1 (nil_k1 (by decide)))
    have h2 : rs σ1 1051 0 = 0 := hm1.2.2.2.2.2.2.2
    refine ⟨(sq_g e1).scr (by decide), wp_Model_writeAnswer ⟨by omega, ?_⟩⟩
    rw [if_pos h2]
    exact bOK.nw hc0 hm0 hp0 e1 v1 v2
  · have hA : aPc σ e s W a b c r k := hc.2.2.2.2.2.2
    have hq : aPp T e W c r k := hp.2.2.1
    refine c_writeAnswer (by omega) hc.1.1 hc.1.2.1 hA hq (fun hb σ1 e1 v1 v2 => ?_) (fun v hv hl σ1 e1 hw => ?_)
    · have hm1 := hm0.k1 ((sq_g e1).k1 (nil_k1 (by decide)))
      have hB : aPm σ1 e s W a b c r k := hm1.2.2.2.2.2.2.2
      exact ⟨(sq_g e1).scr (by decide), t_writeAnswer (by omega) hm1.1 hB hq (fun _ => bOK.nw hc0 hm0 hp0 e1 v1 v2) (fun v h1 h2 => absurd (hb v h1) (by omega))⟩
    · have hm1 := hm0.k1 ((sq_g e1).k1 (nil_k1 (by decide)))
      have hB : aPm σ1 e s W a b c r k := hm1.2.2.2.2.2.2.2
      refine ⟨(sq_g e1).scr (by decide), t_writeAnswer (by omega) hm1.1 hB hq (fun hb => absurd (hb v hv) (by omega)) (fun v' hv' hl' σ2 e2 hw2 => ?_)⟩
      have evv : v' = v := by
        rcases hv with ⟨a1, a2⟩ | ⟨a1, a2⟩
        · rcases hv' with ⟨b1, b2⟩ | ⟨b1, b2⟩
          · exact b2.trans a2.symm
          · omega
        · rcases hv' with ⟨b1, b2⟩ | ⟨b1, b2⟩
          · omega
          · exact b2.trans a2.symm
      rw [evv] at hw2 ⊢
      refine bOK.wr hc0 hm0 hp0 e1 (by decide) (by decide) hw e2 (by decide) hw2 ?_
      have h3 := wrW_len v []
      have h4 : ([] : List Int).length = 0 := rfl
      omega
theorem bo_both (hn : n = 127) (hc : cI σ A) (hm : mI σ A) (hp : pI A) : TrI n i_Top_both [jo 12 0, ji x] σ (fun r σ1 => scq σ σ1 ∧ TrI n i_Model_both [jo 1 0, ji x] σ1 (fun r' σ2 => bOK σ r r' σ2)) := by
  obtain ⟨T, M, D, fl, O, U, Y, w, as⟩ := A
  rcases as with _ | ⟨e, s, W, a, b, c, r, k⟩
  · have h1 : ra σ 12011 0 0 = -1 := hc.2.2.2.2.2.2.1
    have h2 : rs σ 1051 0 = 0 := hm.2.2.2.2.2.2.2
    have l := cln_at hc.1.1 12011 0 9 (by decide)
    refine wp_Top_both ⟨by omega, by omega, by omega, ?_⟩
    rw [if_pos (by omega)]
    refine ⟨scq.rf σ, wp_Model_both ⟨by omega, ?_⟩⟩
    rw [if_pos h2]
    exact bOK.same hc hm hp
  · have hA : aPc σ e s W a b c r k := hc.2.2.2.2.2.2
    have hB : aPm σ e s W a b c r k := hm.2.2.2.2.2.2.2
    exact c_both hc.1.1 hA ⟨scq.rf σ, t_both (by omega) hm.1 hB (bOK.same hc hm hp)⟩
theorem bo_octet (hn : n = 127) (hc : cI σ A) (hm : mI σ A) (hp : pI A) : TrI n i_Top_octet [jo 12 0, ji x] σ (fun r σ1 => scq σ σ1 ∧ TrI n i_Model_octet [jo 1 0, ji x] σ1 (fun r' σ2 => bOK σ r r' σ2)) := by
  have hw := hc.2.2.2.2.2.1
  have hw2 := hm.2.2.2.2.2.2.1
  have hl := hp.2.2.2
  have t124 := cC_at hc.1.2.1 12004 0 0 (by decide)
  have l1 := cln_at hc.1.1 11001 0 2000 (by decide)
  have l2 := mln_at hm.1 1132 2000 (by decide)
  refine wp_Top_octet ⟨by omega, by omega, by omega, ?_⟩
  rw [t124]
  have go : ∀ r : Int, r = (if 0 ≤ x ∧ x < (((aW A).length : Nat) : Int) then (aW A).getD x.toNat 0 else -1) → scq σ σ ∧ TrI n i_Model_octet [jo 1 0, ji x] σ (fun r' σ2 => bOK σ r r' σ2) := fun r hr => by
    refine ⟨scq.rf σ, wp_Model_octet ⟨by omega, by rw [hw2.1]; exact ⟨by omega, by omega⟩, by omega, wp_Model_isIn ?_⟩⟩
    rw [hw2.1]
    by_cases q0 : x < 0
    · rw [if_pos q0, if_pos rfl]
      rw [if_neg (by omega)] at hr
      rw [hr]
      exact bOK.same hc hm hp
    · rw [if_neg q0]
      by_cases q1 : (((aW A).length : Nat) : Int) - 1 < x
      · rw [if_pos q1, if_pos rfl]
        rw [if_neg (by omega)] at hr
        rw [hr]
        exact bOK.same hc hm hp
      · rw [if_neg q1, if_neg (by decide)]
        rw [if_pos (by omega)] at hr
        have := hw2.2 x.toNat (by omega)
        rw [show ((x.toNat : Nat) : Int) = x by omega] at this
        rw [this, hr]
        exact ⟨by omega, by omega, by omega, bOK.same hc hm hp⟩
  refine wp_Written_at ?_
  by_cases q0 : x < 0
  · rw [if_pos q0]
    exact go _ (by rw [if_neg (by omega)])
  · rw [if_neg q0, hw.1]
    refine ⟨by omega, ?_⟩
    by_cases q1 : (((aW A).length : Nat) : Int) ≤ x
    · rw [if_pos q1]
      exact go _ (by rw [if_neg (by omega)])
    · rw [if_neg q1, if_neg (by omega)]
      have := hw.2 x.toNat (by omega)
      rw [show ((x.toNat : Nat) : Int) = x by omega] at this
      rw [this]
      exact ⟨by omega, by omega, by omega, go _ (by rw [if_pos (by omega)])⟩
theorem r_k1 : ∀ F : Nat, 1000 ≤ F → F < 2000 → ¬ rFp F 0 := fun F h1 h2 w => by
  unfold rFp askFp at w
  omega
/-- what would be is asked -/
theorem bOK.apart {r : Int} (hc : cI σ A) (hm : mI σ A) (hp : pI A) (e1 : rq σ σ1) (Z1 : cZ σ1 (aT A) (aM A)) (e2 : sq ewF σ1 σ2) (hO : rs σ2 1015 0 = aO A) (hM : mMem σ2 (aM A)) : bOK σ r r σ2 := by
  have hm1 := hm.k1 (rq.k1 e1)
  have C1 := hc.g (rq_gq e1) Z1 (by unfold rFp askFp; decide)
  obtain ⟨y1, y2, y3, y4, ⟨y5, y6, y7⟩, y8, y9, y10⟩ := hm1
  exact ⟨rfl, ((rq_gq e1).scr (by unfold rFp askFp; decide)).tr (r1_scr e2 (by decide)), A, C1.r1 e2 (by decide), ⟨y1.sq e2, y2.sq e2 (by decide), hM, y4.sq e2 (by decide), ⟨(e2.nrs 1003 0 (by decide)).trans y5, hO, (e2.nrs 1016 0 (by decide)).trans y7⟩, y8.sq e2 (by decide) (by decide), y9.sq e2 (by decide), y10.sq e2 (by decide)⟩, hp⟩
theorem bo_without (hn : n = 127) (hc : cI σ A) (hm : mI σ A) (hp : pI A) : TrI n i_Top_without [jo 12 0, ji x] σ (fun r σ1 => scq σ σ1 ∧ TrI n i_Model_without [jo 1 0, ji x] σ1 (fun r' σ2 => bOK σ r r' σ2)) := by
  have hc0 := hc
  have hm0 := hm
  have hp0 := hp
  obtain ⟨T, M, D, fl, O, U, Y, w, as⟩ := A
  rcases as with _ | ⟨e, s, W, a, b, c, r, k⟩
  · have h1 : ra σ 12011 0 0 = -1 := hc.2.2.2.2.2.2.1
    have h2 : rs σ 1051 0 = 0 := hm.2.2.2.2.2.2.2
    have l := cln_at hc.1.1 12011 0 9 (by decide)
    refine wp_Top_without ⟨by omega, by omega, by omega, ?_⟩
    rw [if_pos h1]
    refine ⟨scq.rf σ, wp_Model_without ⟨by omega, ?_⟩⟩
    rw [if_pos h2]
    exact bOK.same hc0 hm0 hp0
  · have hA : aPc σ e s W a b c r k := hc.2.2.2.2.2.2
    have hq : aPp T e W c r k := hp.2.2.1
    refine c_without hn hc.1 hA hq hc.2.2.2.1.2.1 hc.2.2.2.1.2.2 (fun hb => ?_) (fun hi σ1 e1 Z1 => ?_)
    · have hB : aPm σ e s W a b c r k := hm.2.2.2.2.2.2.2
      exact ⟨scq.rf σ, t_without (by omega) hm.1 hm.2.1 hm.2.2.1 hB hq hm.2.2.2.2.1.2.1 hm.2.2.2.2.1.2.2 (fun _ => bOK.same hc0 hm0 hp0) (fun w => absurd w hb)⟩
    · have hm1 := hm0.k1 (rq.k1 e1)
      have hB : aPm σ1 e s W a b c r k := hm1.2.2.2.2.2.2.2
      exact ⟨(rq_gq e1).scr (by unfold rFp askFp; decide), t_without (by omega) hm1.1 hm1.2.1 hm1.2.2.1 hB hq hm1.2.2.2.2.1.2.1 hm1.2.2.2.2.1.2.2 (fun w => absurd hi w) (fun _ σ2 e2 h3 h4 => bOK.apart hc0 hm0 hp0 e1 Z1 e2 h3 h4)⟩
theorem bo_needed (hn : n = 127) (hc : cI σ A) (hm : mI σ A) (hp : pI A) : TrI n i_Top_needed [jo 12 0] σ (fun r σ1 => scq σ σ1 ∧ TrI n i_Model_needed [jo 1 0] σ1 (fun r' σ2 => bOK σ r r' σ2)) := by
  have hc0 := hc
  have hm0 := hm
  have hp0 := hp
  obtain ⟨T, M, D, fl, O, U, Y, w, as⟩ := A
  rcases as with _ | ⟨e, s, W, a, b, c, r, k⟩
  · have h1 : ra σ 12011 0 0 = -1 := hc.2.2.2.2.2.2.1
    have h2 : rs σ 1051 0 = 0 := hm.2.2.2.2.2.2.2
    have l := cln_at hc.1.1 12011 0 9 (by decide)
    refine wp_Top_needed ⟨by omega, by omega, by omega, ?_⟩
    rw [if_neg (by omega)]
    refine ⟨scq.rf σ, wp_Model_needed ⟨by omega, by omega, wp_Model_wasFound ⟨by omega, ?_⟩⟩⟩
    rw [if_pos h2, if_neg (fun w => w rfl)]
    exact bOK.same hc0 hm0 hp0
  · have hA : aPc σ e s W a b c r k := hc.2.2.2.2.2.2
    have hq : aPp T e W c r k := hp.2.2.1
    refine c_needed hn hc.1 hA hq hc.2.2.2.1.2.1 hc.2.2.2.1.2.2 (fun hb => ?_) (fun hi σ1 e1 Z1 => ?_)
    · have hB : aPm σ e s W a b c r k := hm.2.2.2.2.2.2.2
      exact ⟨scq.rf σ, t_needed (by omega) hm.1 hm.2.1 hm.2.2.1 hB hq hm.2.2.2.2.1.2.1 hm.2.2.2.2.1.2.2 (fun _ => bOK.same hc0 hm0 hp0) (fun w => absurd w hb)⟩
    · have hm1 := hm0.k1 (rq.k1 e1)
      have hB : aPm σ1 e s W a b c r k := hm1.2.2.2.2.2.2.2
      exact ⟨(rq_gq e1).scr (by unfold rFp askFp; decide), t_needed (by omega) hm1.1 hm1.2.1 hm1.2.2.1 hB hq hm1.2.2.2.2.1.2.1 hm1.2.2.2.2.1.2.2 (fun w => absurd hi w) (fun _ σ2 e2 h3 h4 => bOK.apart hc0 hm0 hp0 e1 Z1 e2 h3 h4)⟩
theorem bo_mends (hn : n = 127) (hc : cI σ A) (hm : mI σ A) (hp : pI A) : TrI n i_Top_mends [jo 12 0] σ (fun r σ1 => scq σ σ1 ∧ TrI n i_Model_mends [jo 1 0] σ1 (fun r' σ2 => bOK σ r r' σ2)) := by
  have hc0 := hc
  have hm0 := hm
  have hp0 := hp
  obtain ⟨T, M, D, fl, O, U, Y, w, as⟩ := A
  rcases as with _ | ⟨e, s, W, a, b, c, r, k⟩
  · have h1 : ra σ 12011 0 0 = -1 := hc.2.2.2.2.2.2.1
    have h2 : rs σ 1051 0 = 0 := hm.2.2.2.2.2.2.2
    have l := cln_at hc.1.1 12011 0 9 (by decide)
    refine wp_Top_mends ⟨by omega, by omega, by omega, ?_⟩
    rw [if_pos h1]
    refine ⟨scq.rf σ, wp_Model_mends ⟨by omega, ?_⟩⟩
    rw [if_pos h2]
    exact bOK.same hc0 hm0 hp0
  · have hA : aPc σ e s W a b c r k := hc.2.2.2.2.2.2
    have hq : aPp T e W c r k := hp.2.2.1
    refine c_mends hn hc.1 hA hq hc.2.2.2.1.2.1 hc.2.2.2.1.2.2 (fun hb => ?_) (fun hi σ1 e1 Z1 => ?_)
    · have hB : aPm σ e s W a b c r k := hm.2.2.2.2.2.2.2
      exact ⟨scq.rf σ, t_mends (by omega) hm.1 hm.2.1 hm.2.2.1 hB hq hm.2.2.2.2.1.2.1 hm.2.2.2.2.1.2.2 (fun _ => bOK.same hc0 hm0 hp0) (fun w => absurd hb w)⟩
    · have hm1 := hm0.k1 (rq.k1 e1)
      have hB : aPm σ1 e s W a b c r k := hm1.2.2.2.2.2.2.2
      exact ⟨(rq_gq e1).scr (by unfold rFp askFp; decide), t_mends (by omega) hm1.1 hm1.2.1 hm1.2.2.1 hB hq hm1.2.2.2.2.1.2.1 hm1.2.2.2.2.1.2.2 (fun w => absurd w hi) (fun _ σ2 e2 h3 h4 => bOK.apart hc0 hm0 hp0 e1 Z1 e2 h3 h4)⟩
end ZAe
