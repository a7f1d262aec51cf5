/-! Calls in both: the tape, what stands, what two have to do with each other. -/
section ZAc
variable {n : Nat} {σ σ1 σ2 : jS} {A : zA} {T : zT} {M : zM} {D w : List Int} {fl O U x y v : Int} {Y : Nat → List Int} {as : Option zK} {l : List (Nat × Int)}
theorem fdD_len (D : List Int) (a b c d e : Int) : (fdD D a b c d e).length = D.length + 20 := by
  unfold fdD by4
  simp
/-- the class's lists of fields leave what the text and the search hold -/
theorem cZ_sq (h : cZ σ T M) (e : sq l σ σ1) (hl : ((mrL ++ cTxF ++ (9004, 0) :: ccT.map (fun p => p.1)).all (fun p => !l.contains p)) = true) (hf : ∀ p, p ∈ l → p.1 < 2 → p.2 < 2 ∨ (242 ≤ p.2 ∧ p.2 < 251)) : cZ σ1 T M := by
  refine h.fq (sq_r1 e) hl (fun o ho => ⟨?_, ?_⟩)
  · cases hc : l.contains ((0 : Nat), o) with
    | false => rfl
    | true =>
      have := hf _ (List.contains_iff_mem.mp hc) (show (0 : Nat) < 2 by decide)
      dsimp only at this
      omega
  · cases hc : l.contains ((1 : Nat), o) with
    | false => rfl
    | true =>
      have := hf _ (List.contains_iff_mem.mp hc) (show (1 : Nat) < 2 by decide)
      dsimp only at this
      omega
theorem cTp_nil (h : rs σ 8000 0 = 0) : cTp σ [] := ⟨h, Nat.zero_le _, fun i hi => absurd hi (Nat.not_lt_zero i), fun b hb => absurd hb (List.not_mem_nil)⟩
theorem mTp_nil (h : rs σ 1001 0 = 0) : mTp σ [] := ⟨h, Nat.zero_le _, fun i hi => absurd hi (Nat.not_lt_zero i), fun b hb => absurd hb (List.not_mem_nil)⟩
theorem gdM_nil (T : zT) : gdM T [] := fun e he => absurd he (List.not_mem_nil)
theorem rmM_nil : rmM [] := ⟨fun e he => absurd he (List.not_mem_nil), fun e he => absurd he (List.not_mem_nil)⟩
theorem cAs_f (h : cAs σ as) : gr3 (rl σ 6001 2) ∧ 1 ≤ rl σ 3001 1 := by
  rcases as with _ | ⟨e, s, W, a, b, c, r, k⟩
  · exact ⟨h.2.2.2.2.2.1, h.2.2.2.2.2.2.2.2.2⟩
  · exact ⟨h.2.1.2.2.2.2.1, h.2.1.2.2.2.2.2.2.2.2⟩
theorem bo_feed {a b c d e : Int} (hn : n = 127) (hc : cI σ A) (hm : mI σ A) (hp : pI A) : TrI n i_Top_feed [jo 12 0, ji a, ji b, ji c, ji d, ji e] σ (fun r σ1 => scq σ σ1 ∧ TrI n i_Model_feed [jo 1 0, ji a, ji b, ji c, ji d, ji e] σ1 (fun r' σ2 => bOK σ r r' σ2)) := by
  obtain ⟨T, M, D, fl, O, U, Y, w, as⟩ := A
  have hc0 := hc
  have hm0 := hm
  obtain ⟨z1, z2, z3, ⟨z4, z5, z6⟩, z7, z8, z9⟩ := hc
  have z3 : cTp σ D := z3
  have m4 : mTp σ D := hm.2.2.2.1
  refine c_feed (by omega) z1.1 z1.2.1 z3 (fun q => ?_) (fun q σ1 e1 h1 => ?_)
  · exact ⟨scq.rf σ, t_feed (by omega) hm.1 m4 (fun _ => bOK.same hc0 hm0 hp) (fun q2 => absurd q (by omega))⟩
  · have hm1 := hm0.k1 ((sq_g e1).k1 (nil_k1 (by decide)))
    have sc1 : scq σ σ1 := (sq_g e1).scr (by decide)
    refine ⟨sc1, t_feed (by omega) hm1.1 hm1.2.2.2.1 (fun q2 => absurd q (by have : 800 < D.length + 20 := q2; omega)) (fun _ σ2 e2 h2 => ?_)⟩
    obtain ⟨y1, y2, y3, y4, ⟨y5, y6, y7⟩, y8, y9, y10⟩ := hm1
    have Z1 := cZ_sq z1 e1 (by decide) (by decide)
    have C1 : cI σ1 (T, M, fdD D a b c d e, fl, O, U, Y, w, as) := ⟨Z1, z2.g (sq_g e1) (by decide), h1, ⟨(e1.nrs 12008 0 (by decide)).trans z4, (e1.nrs 12009 0 (by decide)).trans z5, (e1.nrs 12010 0 (by decide)).trans z6⟩, z7.g (sq_g e1) (by decide), z8.g (sq_g e1) (by decide), z9.g (sq_g e1) (by decide)⟩
    exact ⟨rfl, sc1.tr (r1_scr e2 (by decide)), (T, M, fdD D a b c d e, fl, O, U, Y, w, as), C1.r1 e2 (by decide), ⟨y1.sq e2, y2.sq e2 (by decide), y3.sq e2 (by decide), h2, ⟨(e2.nrs 1003 0 (by decide)).trans y5, (e2.nrs 1015 0 (by decide)).trans y6, (e2.nrs 1016 0 (by decide)).trans y7⟩, y8.sq e2 (by decide) (by decide), y9.sq e2 (by decide), y10.sq e2 (by decide)⟩, hp⟩
theorem bo_end (hn : n = 127) (hc : cI σ A) (hm : mI σ A) (hp : pI A) : TrI n i_Top_end [jo 12 0, ji x] σ (fun r σ1 => scq σ σ1 ∧ TrI n i_Model_end [jo 1 0, ji x] σ1 (fun r' σ2 => bOK σ r r' σ2)) := by
  obtain ⟨T, M, D, fl, O, U, Y, w, as⟩ := A
  have hc0 := hc
  have hm0 := hm
  obtain ⟨z1, z2, z3, ⟨z4, z5, z6⟩, z7, z8, z9⟩ := hc
  have z3 : cTp σ D := z3
  have m4 : mTp σ D := hm.2.2.2.1
  refine c_end z1.2.1 z3 (fun q => ?_) (fun q0 q1 σ1 e1 h1 => ?_)
  · exact ⟨scq.rf σ, t_end (by omega) m4 (fun _ => bOK.same hc0 hm0 hp) (fun w0 w1 => absurd ⟨w0, w1⟩ q)⟩
  · have hm1 := hm0.k1 ((sq_g e1).k1 (nil_k1 (by decide)))
    have sc1 : scq σ σ1 := (sq_g e1).scr (by decide)
    refine ⟨sc1, t_end (by omega) hm1.2.2.2.1 (fun q2 => absurd ⟨q0, q1⟩ q2) (fun _ _ σ2 e2 h2 => ?_)⟩
    obtain ⟨y1, y2, y3, y4, ⟨y5, y6, y7⟩, y8, y9, y10⟩ := hm1
    have Z1 := cZ_sq z1 e1 (by decide) (by decide)
    have C1 : cI σ1 (T, M, D.take x.toNat, fl, O, U, Y, w, as) := ⟨Z1, z2.g (sq_g e1) (by decide), h1, ⟨(e1.nrs 12008 0 (by decide)).trans z4, (e1.nrs 12009 0 (by decide)).trans z5, (e1.nrs 12010 0 (by decide)).trans z6⟩, z7.g (sq_g e1) (by decide), z8.g (sq_g e1) (by decide), z9.g (sq_g e1) (by decide)⟩
    exact ⟨rfl, sc1.tr (r1_scr e2 (by decide)), (T, M, D.take x.toNat, fl, O, U, Y, w, as), C1.r1 e2 (by decide), ⟨y1.sq e2, y2.sq e2 (by decide), y3.sq e2 (by decide), h2, ⟨(e2.nrs 1003 0 (by decide)).trans y5, (e2.nrs 1015 0 (by decide)).trans y6, (e2.nrs 1016 0 (by decide)).trans y7⟩, y8.sq e2 (by decide) (by decide), y9.sq e2 (by decide), y10.sq e2 (by decide)⟩, hp⟩
theorem u1F_k1 {tx : Int} : ∀ F : Nat, 1000 ≤ F → F < 2000 → ¬ (fun F o => u1F tx F o = true) F 0 := fun F h1 h2 w => by
  dsimp only at w
  unfold u1F u0F tFpB at w
  simp at w
  omega
theorem u0F_k1 {tx : Int} : ∀ F : Nat, 1000 ≤ F → F < 2000 → ¬ (fun F o => u0F tx F o = true) F 0 := fun F h1 h2 w => by
  dsimp only at w
  unfold u0F tFpB at w
  simp at w
  omega
theorem bo_scopes (hn : n = 127) (hc : cI σ A) (hm : mI σ A) (hp : pI A) : TrI n i_Top_scopes [jo 12 0] σ (fun r σ1 => scq σ σ1 ∧ TrI n i_Model_scopes [jo 1 0] σ1 (fun r' σ2 => bOK σ r r' σ2)) := by
  obtain ⟨T, M, D, fl, O, U, Y, w, as⟩ := A
  have hm0 := hm
  obtain ⟨z1, z2, z3, ⟨z4, z5, z6⟩, z7, z8, z9⟩ := hc
  have z3 : cTp σ D := z3
  obtain ⟨tx, htx⟩ : ∃ tx, tx = rs σ 12006 0 := ⟨_, rfl⟩
  have htx2 : tx = 0 ∨ tx = 1 := by
    obtain ⟨-, -, ⟨-, t, t1, -, t2, -⟩, -⟩ := z1
    have := z2.2
    omega
  obtain ⟨f1, f2⟩ := cAs_f z9
  have fx1 : ∀ p, p ∈ ypL ++ wcF ++ [(800000, 0), (12008, 0), (12009, 0), (12010, 0)] → p ∈ ypL ++ wcF ∨ p = (800000, 0) ∨ p = (12008, 0) ∨ p = (12009, 0) ∨ p = (12010, 0) := by decide
  refine c_scopes (by omega) z1 z2 z3 htx.symm (fun hx σ1 g1 v1 v2 v3 v4 v5 v6 v7 Z1 X1 => ?_) (fun hx σ1 g1 v1 v2 Z1 X1 => ?_)
  · have hm1 := hm0.k1 (g1.1.k1 u1F_k1)
    have sc1 : scq σ σ1 := g1.1.scr (by rcases htx2 with q | q <;> rw [q] <;> decide)
    have hm4 : mTp σ1 D := hm1.2.2.2.1
    refine ⟨sc1, t_scopes (by omega) hm1.1 hm4 (fun _ σ2 e2 w1 w2 w3 w4 w5 w6 w7 => ?_) (fun q => by rw [hx] at q; cases q)⟩
    obtain ⟨y1, y2, y3, y4, ⟨y5, y6, y7⟩, y8, y9, y10⟩ := hm1
    have C1 : cI σ1 (txT (rdTx D).2.2, [], [], -1, 0, 0, Y, w, none) := by
      refine ⟨Z1, X1, cTp_nil v2, ⟨v1, v3, v4⟩, z7.g g1.1 ?_, z8.g g1.1 ?_, v5, ?_⟩
      · rcases htx2 with q | q <;> rw [q] <;> decide
      · rcases htx2 with q | q <;> rw [q] <;> decide
      · refine ⟨v6, trivial, ?_⟩
        unfold fok
        rw [v6, v7, g1.l 6001 2, g1.l 3001 1]
        unfold gr3 at f1 ⊢
        exact ⟨by omega, by omega, f1, by omega, by omega, by omega, f2⟩
    refine ⟨rfl, sc1.tr (r1_scr e2 (by decide)), _, C1.r1 e2 (by decide), ⟨y1.sq e2, w6, w7, mTp_nil w2, ⟨w1, w3, w4⟩, y8.sq e2 (by decide) (by decide), y9.sq e2 (by decide), w5⟩, ⟨gdM_nil _, rmM_nil, trivial, hp.2.2.2⟩⟩
  · have hm1 := hm0.k1 (g1.1.k1 u0F_k1)
    have sc1 : scq σ σ1 := g1.1.scr (by rcases htx2 with q | q <;> rw [q] <;> decide)
    have hm4 : mTp σ1 D := hm1.2.2.2.1
    refine ⟨sc1, t_scopes (by omega) hm1.1 hm4 (fun q => by rw [hx] at q; cases q) (fun _ σ2 e2 w1 w2 => ?_)⟩
    obtain ⟨y1, y2, y3, y4, ⟨y5, y6, y7⟩, y8, y9, y10⟩ := hm1
    have C1 : cI σ1 (T, M, [], (((rdTx D).2.1 : Nat) : Int), O, U, Y, w, as) := by
      refine ⟨Z1, X1, cTp_nil v2, ⟨v1, ?_, ?_⟩, z7.g g1.1 ?_, z8.g g1.1 ?_, z9.g g1.1 ?_⟩
      · exact (g1.1 12009 0 (by decide) (by rcases htx2 with q | q <;> rw [q] <;> decide)).1.trans z5
      · exact (g1.1 12010 0 (by decide) (by rcases htx2 with q | q <;> rw [q] <;> decide)).1.trans z6
      · rcases htx2 with q | q <;> rw [q] <;> decide
      · rcases htx2 with q | q <;> rw [q] <;> decide
      · rcases htx2 with q | q <;> rw [q] <;> decide
    refine ⟨rfl, sc1.tr (r1_scr e2 (by decide)), _, C1.r1 e2 (by decide), ⟨y1.sq e2, y2.sq e2 (by decide), y3.sq e2 (by decide), mTp_nil w2, ⟨w1, (e2.nrs 1015 0 (by decide)).trans y6, (e2.nrs 1016 0 (by decide)).trans y7⟩, y8.sq e2 (by decide) (by decide), y9.sq e2 (by decide), y10.sq e2 (by decide)⟩, hp⟩
theorem bo_fault (hn : n = 127) (hc : cI σ A) (hm : mI σ A) (hp : pI A) : TrI n i_Top_fault [jo 12 0] σ (fun r σ1 => scq σ σ1 ∧ TrI n i_Model_fault [jo 1 0] σ1 (fun r' σ2 => bOK σ r r' σ2)) := by
  refine wp_Top_fault ⟨by omega, scq.rf σ, wp_Model_fault ⟨by omega, ?_⟩⟩
  rw [hc.2.2.2.1.1, hm.2.2.2.2.1.1]
  exact bOK.same hc hm hp
theorem bo_is (hn : n = 127) (hc : cI σ A) (hm : mI σ A) (hp : pI A) : TrI n i_Top_is [jo 12 0, ji x] σ (fun r σ1 => scq σ σ1 ∧ TrI n i_Model_is [jo 1 0, ji x] σ1 (fun r' σ2 => bOK σ r r' σ2)) :=
  c_is (by omega) hc.1 hc.2.2.1 hc.2.2.2.1.2.1 hc.2.2.2.1.2.2 ⟨scq.rf σ, t_is hm.1 hm.2.1 hm.2.2.1 hm.2.2.2.1 hm.2.2.2.2.1.2.1 hm.2.2.2.2.1.2.2 (bOK.same hc hm hp)⟩
theorem bo_scope (hn : n = 127) (hc : cI σ A) (hm : mI σ A) (hp : pI A) : TrI n i_Top_scope [jo 12 0, ji x, ji y] σ (fun r σ1 => scq σ σ1 ∧ TrI n i_Model_scope [jo 1 0, ji x, ji y] σ1 (fun r' σ2 => bOK σ r r' σ2)) :=
  c_scope (by omega) hc.1 ⟨scq.rf σ, t_scope (by omega) hm.1 hm.2.1 (bOK.same hc hm hp)⟩
theorem bo_given (hn : n = 127) (hc : cI σ A) (hm : mI σ A) (hp : pI A) : TrI n i_Top_given [jo 12 0, ji x, ji y] σ (fun r σ1 => scq σ σ1 ∧ TrI n i_Model_given [jo 1 0, ji x, ji y] σ1 (fun r' σ2 => bOK σ r r' σ2)) :=
  c_given (by omega) hc.1 (fun v hv => ⟨scq.rf σ, t_given (by omega) hm.1 hm.2.1 (fun v' hv' => by
    rw [gvP_uni hv' hv]
    exact bOK.same hc hm hp)⟩)
theorem bo_out (hn : n = 127) (hc : cI σ A) (hm : mI σ A) (hp : pI A) : TrI n i_Top_out [jo 12 0, ji x, ji v] σ (fun r σ1 => scq σ σ1 ∧ TrI n i_Model_out [jo 1 0, ji x, ji v] σ1 (fun r' σ2 => bOK σ r r' σ2)) := by
  obtain ⟨T, M, D, fl, O, U, Y, w, as⟩ := A
  have hc0 := hc
  have hm0 := hm
  obtain ⟨z1, z2, z3, ⟨z4, z5, z6⟩, z7, z8, z9⟩ := hc
  refine c_out (by omega) z1 z5 (fun q => ?_) (fun q σ1 e1 h1 Z1 => ?_)
  · exact ⟨scq.rf σ, t_out (by omega) hm.2.1 hm.2.2.2.2.1.2.1 (fun _ => bOK.same hc0 hm0 hp) (fun q2 => by
      rw [q] at q2
      cases q2)⟩
  · have hm1 := hm0.k1 ((sq_g e1).k1 (nil_k1 (by decide)))
    have sc1 : scq σ σ1 := (sq_g e1).scr (by decide)
    refine ⟨sc1, t_out (by omega) hm1.2.1 hm1.2.2.2.2.1.2.1 (fun q2 => by
      rw [q] at q2
      cases q2) (fun _ σ2 e2 h2 h3 => ?_)⟩
    obtain ⟨y1, y2, y3, y4, ⟨y5, y6, y7⟩, y8, y9, y10⟩ := hm1
    have C1 : cI σ1 (T, [], D, fl, bXor O (bShl 1 x), U, Y, w, as) := ⟨Z1, z2.g (sq_g e1) (by decide), z3.g (sq_g e1) (by decide), ⟨(e1.nrs 12008 0 (by decide)).trans z4, h1, (e1.nrs 12010 0 (by decide)).trans z6⟩, z7.g (sq_g e1) (by decide), z8.g (sq_g e1) (by decide), z9.g (sq_g e1) (by decide)⟩
    exact ⟨rfl, sc1.tr (r1_scr e2 (by decide)), _, C1.r1 e2 (by decide), ⟨y1.sq e2, y2.sq e2 (by decide), h3, y4.sq e2 (by decide), ⟨(e2.nrs 1003 0 (by decide)).trans y5, h2, (e2.nrs 1016 0 (by decide)).trans y7⟩, y8.sq e2 (by decide) (by decide), y9.sq e2 (by decide), y10.sq e2 (by decide)⟩, ⟨gdM_nil _, rmM_nil, hp.2.2.1, hp.2.2.2⟩⟩
theorem bo_shut (hn : n = 127) (hc : cI σ A) (hm : mI σ A) (hp : pI A) : TrI n i_Top_shut [jo 12 0, ji x, ji v] σ (fun r σ1 => scq σ σ1 ∧ TrI n i_Model_shut [jo 1 0, ji x, ji v] σ1 (fun r' σ2 => bOK σ r r' σ2)) := by
  obtain ⟨T, M, D, fl, O, U, Y, w, as⟩ := A
  have hc0 := hc
  have hm0 := hm
  obtain ⟨z1, z2, z3, ⟨z4, z5, z6⟩, z7, z8, z9⟩ := hc
  refine c_shut (by omega) z1 z6 (fun q => ?_) (fun q σ1 e1 h1 Z1 => ?_)
  · exact ⟨scq.rf σ, t_shut (by omega) hm.2.1 hm.2.2.2.2.1.2.2 (fun _ => bOK.same hc0 hm0 hp) (fun q2 => by
      rw [q] at q2
      cases q2)⟩
  · have hm1 := hm0.k1 ((sq_g e1).k1 (nil_k1 (by decide)))
    have sc1 : scq σ σ1 := (sq_g e1).scr (by decide)
    refine ⟨sc1, t_shut (by omega) hm1.2.1 hm1.2.2.2.2.1.2.2 (fun q2 => by
      rw [q] at q2
      cases q2) (fun _ σ2 e2 h2 h3 => ?_)⟩
    obtain ⟨y1, y2, y3, y4, ⟨y5, y6, y7⟩, y8, y9, y10⟩ := hm1
    have C1 : cI σ1 (T, [], D, fl, O, bXor U (bShl 1 x), Y, w, as) := ⟨Z1, z2.g (sq_g e1) (by decide), z3.g (sq_g e1) (by decide), ⟨(e1.nrs 12008 0 (by decide)).trans z4, (e1.nrs 12009 0 (by decide)).trans z5, h1⟩, z7.g (sq_g e1) (by decide), z8.g (sq_g e1) (by decide), z9.g (sq_g e1) (by decide)⟩
    exact ⟨rfl, sc1.tr (r1_scr e2 (by decide)), _, C1.r1 e2 (by decide), ⟨y1.sq e2, y2.sq e2 (by decide), h3, y4.sq e2 (by decide), ⟨(e2.nrs 1003 0 (by decide)).trans y5, (e2.nrs 1015 0 (by decide)).trans y6, h2⟩, y8.sq e2 (by decide) (by decide), y9.sq e2 (by decide), y10.sq e2 (by decide)⟩, ⟨gdM_nil _, rmM_nil, hp.2.2.1, hp.2.2.2⟩⟩
theorem bo_special (hn : n = 127) (hc : cI σ A) (hm : mI σ A) (hp : pI A) : TrI n i_Top_special [jo 12 0, ji x, ji y] σ (fun r σ1 => scq σ σ1 ∧ TrI n i_Model_special [jo 1 0, ji x, ji y] σ1 (fun r' σ2 => bOK σ r r' σ2)) := by
  refine c_special (by omega) hc.1 (fun σ1 e1 Z1 => ⟨(cq_g e1).scr (by decide), ?_⟩)
  have hm1 := hm.k1 ((cq_g e1).k1 (nil_k1 (by decide)))
  exact t_special (by omega) hm1.1 hm1.2.1 (fun σ2 e2 => bOK.keep hc hm hp (cq_g e1) Z1 (by decide) (nil_k1 (by decide)) (by decide) e2 (by decide) (by decide))
theorem bo_clashes (hn : n = 127) (hc : cI σ A) (hm : mI σ A) (hp : pI A) : TrI n i_Top_clashes [jo 12 0] σ (fun r σ1 => scq σ σ1 ∧ TrI n i_Model_clashes [jo 1 0] σ1 (fun r' σ2 => bOK σ r r' σ2)) := by
  refine c_clashes (by omega) hc.1 hc.2.2.2.1.2.1 (fun σ1 e1 Z1 => ⟨(cq_g e1).scr (by decide), ?_⟩)
  have hm1 := hm.k1 ((cq_g e1).k1 (nil_k1 (by decide)))
  exact t_clashes (by omega) hm1.1 hm1.2.1 hm1.2.2.2.2.1.2.1 (fun σ2 e2 => bOK.keep hc hm hp (cq_g e1) Z1 (by decide) (nil_k1 (by decide)) (by decide) e2 (by decide) (by decide))
end ZAc
