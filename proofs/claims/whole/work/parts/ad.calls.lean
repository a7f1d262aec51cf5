/-! Calls in both: types, values, what is asked. -/
section ZAd
variable {n : Nat} {σ σ1 σ2 : jS} {A : zA} {T : zT} {M : zM} {D w r : List Int} {fl O U x y v : Int} {Y : Nat → List Int} {as : Option zK} {l : List (Nat × Int)} {P : zP}
theorem pYc_upd {i : Int} (h : pYc σ Y) (i0 : 0 ≤ i) (i1 : i < 4) (e : sq (ctF i) σ σ1) (hr : rwk r) (hf : fT σ1 (247 + i) r) : pYc σ1 (fun j => if ((j : Nat) : Int) = i then r else Y j) := fun j hj => by
  obtain ⟨a1, a2, a3⟩ := h j hj
  have n1 : (ctF i).contains (12001, 0) = false := by unfold ctF; simp
  refine ⟨?_, by rw [e.nra 12001 0 _ n1]; exact a2, ?_⟩
  · dsimp only
    split
    · exact hr
    · exact a1
  · dsimp only
    by_cases q : ((j : Nat) : Int) = i
    · rw [if_pos q, q]; exact hf
    · rw [if_neg q]
      have n2 : (ctF i).contains (0, 247 + ((j : Nat) : Int)) = false := by unfold ctF; simp; omega
      have n3 : (ctF i).contains (1, 247 + ((j : Nat) : Int)) = false := by unfold ctF; simp; omega
      obtain ⟨b1, b2, b3, b4⟩ := a3
      exact ⟨b1, by rw [e.nrs 1 _ n3]; exact b2, by rw [e.nrl 0 _]; exact b3, fun p hp => by rw [e.nra 0 _ _ n2]; exact b4 p hp⟩
theorem pYm_upd {i : Int} (h : pYm σ Y) (i0 : 0 ≤ i) (i1 : i < 4) (hl : rl σ1 1046 0 = rl σ 1046 0) (h48 : rl σ 1046 0 = 48) (hr : rwk r) (h7 : ∀ k, ra σ1 1047 0 k = if k = i then ((r.length : Nat) : Int) else ra σ 1047 0 k) (h6 : ∀ k, ra σ1 1046 0 k = if 12 * i ≤ k ∧ k < 12 * i + ((r.length : Nat) : Int) then r.getD (k - 12 * i).toNat 0 else ra σ 1046 0 k) : pYm σ1 (fun j => if ((j : Nat) : Int) = i then r else Y j) := fun j hj => by
  obtain ⟨a1, a2, a3, a4, a5⟩ := h j hj
  have r12 := hr.2.2
  dsimp only
  by_cases q : ((j : Nat) : Int) = i
  · rw [if_pos q]
    refine ⟨hr, by rw [h7, if_pos q], by omega, by rw [hl]; omega, fun p hp => ?_⟩
    rw [h6, if_pos (by omega), show (12 * ((j : Nat) : Int) + ((p : Nat) : Int) - 12 * i).toNat = p by omega]
  · rw [if_neg q]
    have y12 := a1.2.2
    refine ⟨a1, by rw [h7, if_neg q]; exact a2, a3, by rw [hl]; exact a4, fun p hp => ?_⟩
    rw [h6, if_neg (by omega)]
    exact a5 p hp
theorem ctF_g {i : Int} (i0 : 0 ≤ i) (i1 : i < 4) {L : List (Nat × Int)} (hL : (L.all (fun p => decide ((2 ≤ p.1 ∨ 251 ≤ p.2 ∨ (2 ≤ p.2 ∧ p.2 < 247)) ∧ ¬ p = (8001, 0) ∧ ¬ p = (8003, 0) ∧ ¬ p = (8000, 0) ∧ ¬ p = (12008, 0)))) = true) : ∀ p, p ∈ L → ¬ (fun F o => (F, o) ∈ ctF i) p.1 p.2 := fun p hp w => by
  have h := of_decide_eq_true (List.all_eq_true.mp hL p hp)
  obtain ⟨p1, p2⟩ := p
  dsimp only at h w
  unfold ctF at w
  simp at w h
  omega
theorem bo_type (hn : n = 127) (hc : cI σ A) (hm : mI σ A) (hp : pI A) : TrI n i_Top_type [jo 12 0, ji x] σ (fun r σ1 => scq σ σ1 ∧ TrI n i_Model_type [jo 1 0, ji x] σ1 (fun r' σ2 => bOK σ r r' σ2)) := by
  obtain ⟨T, M, D, fl, O, U, Y, w, as⟩ := A
  have hm0 := hm
  obtain ⟨z1, z2, z3, ⟨z4, z5, z6⟩, z7, z8, z9⟩ := hc
  have z3 : cTp σ D := z3
  refine c_type (by omega) z1.1 z1.2.1 z3 (fun x0 x1 => ?_) (fun σ1 e1 hb v1 v2 => ?_) (fun hi hx σ1 e1 v1 v2 v3 => ?_)
  · have := (z7 x.toNat (by omega)).2.1
    rw [show ((x.toNat : Nat) : Int) = x by omega] at this
    exact this
  · have hm1 := hm0.k1 ((sq_g e1).k1 (nil_k1 (by decide)))
    have sc1 : scq σ σ1 := (sq_g e1).scr (by decide)
    have hm4 : mTp σ1 D := hm1.2.2.2.1
    have Z1 := cZ_sq z1 e1 (by decide) (by decide)
    refine ⟨sc1, t_type (by omega) hm1.1 hm4 (fun σ2 e2 _ w1 w2 => ?_) (fun hi hx => by
      rcases hb with q | q
      · exact absurd hi q
      · rw [hx] at q; cases q)⟩
    obtain ⟨y1, y2, y3, y4, ⟨y5, y6, y7⟩, y8, y9, y10⟩ := hm1
    have C1 : cI σ1 (T, M, [], (if 0 ≤ x ∧ x < 4 then (((rdT D 0).2.1 : Nat) : Int) else -1), O, U, Y, w, as) := ⟨Z1, z2.g (sq_g e1) (by decide), cTp_nil v2, ⟨v1, (e1.nrs 12009 0 (by decide)).trans z5, (e1.nrs 12010 0 (by decide)).trans z6⟩, z7.g (sq_g e1) (by decide), z8.g (sq_g e1) (by decide), z9.g (sq_g e1) (by decide)⟩
    exact ⟨rfl, sc1.tr (r1_scr e2 (by decide)), _, C1.r1 e2 (by decide), ⟨y1.sq e2, y2.sq e2 (by decide), y3.sq e2 (by decide), mTp_nil w2, ⟨w1, (e2.nrs 1015 0 (by decide)).trans y6, (e2.nrs 1016 0 (by decide)).trans y7⟩, y8.sq e2 (by decide) (by decide), y9.sq e2 (by decide), y10.sq e2 (by decide)⟩, hp⟩
  · obtain ⟨i0, i1⟩ := hi
    have hrw := rdW_rw hx
    have hk : ∀ F : Nat, 1000 ≤ F → F < 2000 → ¬ (fun F o => (F, o) ∈ ctF x) F (0 : Int) := fun F h1 h2 q => by
      dsimp only at q
      unfold ctF at q
      simp at q
      omega
    have hm1 := hm0.k1 ((sq_g e1).k1 hk)
    have sc1 : scq σ σ1 := (sq_g e1).scr (by unfold ctF; simp)
    have hm4 : mTp σ1 D := hm1.2.2.2.1
    have Z1 : cZ σ1 T M := by
      refine z1.fq (sq_r1 e1) (List.all_eq_true.mpr (fun p hp => ?_)) (fun o ho => ⟨?_, ?_⟩)
      · have h2 : ∀ p, p ∈ (mrL ++ cTxF ++ (9004, 0) :: ccT.map (fun p => p.1)) → 2 ≤ p.1 ∧ ¬ p = (8001, 0) ∧ ¬ p = (8003, 0) ∧ ¬ p = (8000, 0) ∧ ¬ p = (12008, 0) := by decide
        have h3 := h2 p hp
        obtain ⟨p1, p2⟩ := p
        unfold ctF
        simp at h3 ⊢
        omega
      · unfold ctF; simp; omega
      · unfold ctF; simp; omega
    refine ⟨sc1, t_type (by omega) hm1.1 hm4 (fun σ2 e2 hb _ _ => ?_) (fun _ _ σ2 e2 w1 w2 w3 w4 => ?_)⟩
    · rcases hb with q | q
      · exact absurd ⟨i0, i1⟩ q
      · rw [hx] at q; cases q
    · obtain ⟨y1, y2, y3, y4, ⟨y5, y6, y7⟩, y8, y9, y10⟩ := hm1
      have C1 : cI σ1 (T, M, [], -1, O, U, (fun j => if ((j : Nat) : Int) = x then (rdT D 0).2.2 else Y j), w, as) := ⟨Z1, z2.g (sq_g e1) (ctF_g i0 i1 (by decide)), cTp_nil v2, ⟨v1, (e1.nrs 12009 0 (by unfold ctF; simp)).trans z5, (e1.nrs 12010 0 (by unfold ctF; simp)).trans z6⟩, pYc_upd z7 i0 i1 e1 hrw.1 v3, z8.g (sq_g e1) (ctF_g i0 i1 (by decide)), z9.g (sq_g e1) (ctF_g i0 i1 (by decide))⟩
      exact ⟨rfl, sc1.tr (r1_scr e2 (by decide)), _, C1.r1 e2 (by decide), ⟨y1.sq e2, y2.sq e2 (by decide), y3.sq e2 (by decide), mTp_nil w2, ⟨w1, (e2.nrs 1015 0 (by decide)).trans y6, (e2.nrs 1016 0 (by decide)).trans y7⟩, pYm_upd y8 i0 i1 (e2.nrl 1046 0) (mln_at y1 1046 48 (by decide)) hrw.1 w3 w4, y9.sq e2 (by decide), y10.sq e2 (by decide)⟩, hp⟩
theorem bo_relation (hn : n = 127) (hc : cI σ A) (hm : mI σ A) (hp : pI A) : TrI n i_Top_relation [jo 12 0, ji x, ji y, ji v] σ (fun r σ1 => scq σ σ1 ∧ TrI n i_Model_relation [jo 1 0, ji x, ji y, ji v] σ1 (fun r' σ2 => bOK σ r r' σ2)) := by
  by_cases qx : 0 ≤ x ∧ x < 4
  · by_cases qy : 0 ≤ y ∧ y < 4
    · obtain ⟨i, hi⟩ := Int.eq_ofNat_of_zero_le qx.1
      obtain ⟨j, hj⟩ := Int.eq_ofNat_of_zero_le qy.1
      rw [hi, hj]
      refine c_relation (by omega) hc.1 hc.2.2.2.2.1 (by omega) (by omega) (fun σ1 e1 Z1 => ⟨(cq_g e1).scr (by decide), ?_⟩)
      have hm1 := hm.k1 ((cq_g e1).k1 (nil_k1 (by decide)))
      exact t_relation (by omega) hm1.1 hm1.2.2.2.2.2.1 (by omega) (by omega) (fun σ2 e2 => bOK.keep hc hm hp (cq_g e1) Z1 (by decide) (nil_k1 (by decide)) (by decide) e2 (by decide) (by decide))
    · refine wp_Top_relation ⟨by omega, by omega, c_hasType hc.1.1 (fun w => absurd qx w) (fun _ => ?_)⟩
      rw [if_neg (by decide)]
      refine c_hasType hc.1.1 (fun _ => ?_) (fun w => absurd w qy)
      rw [if_neg (fun w => w rfl)]
      refine ⟨scq.rf σ, wp_Model_relation ⟨by omega, t_isTold (by omega) (fun w => absurd qx w) (fun _ => ?_)⟩⟩
      rw [if_neg (by decide)]
      refine t_isTold (by omega) (fun _ => ?_) (fun w => absurd w qy)
      rw [if_neg (fun w => w rfl)]
      exact bOK.same hc hm hp
  · refine wp_Top_relation ⟨by omega, by omega, c_hasType hc.1.1 (fun _ => ?_) (fun w => absurd w qx)⟩
    rw [if_pos rfl]
    refine ⟨scq.rf σ, wp_Model_relation ⟨by omega, t_isTold (by omega) (fun _ => ?_) (fun w => absurd w qx)⟩⟩
    rw [if_pos rfl]
    exact bOK.same hc hm hp
theorem bo_unified (hn : n = 127) (hc : cI σ A) (hm : mI σ A) (hp : pI A) : TrI n i_Top_unified [jo 12 0, ji x, ji y] σ (fun r σ1 => scq σ σ1 ∧ TrI n i_Model_unified [jo 1 0, ji x, ji y] σ1 (fun r' σ2 => bOK σ r r' σ2)) := by
  by_cases qx : 0 ≤ x ∧ x < 4
  · by_cases qy : 0 ≤ y ∧ y < 4
    · obtain ⟨i, hi⟩ := Int.eq_ofNat_of_zero_le qx.1
      obtain ⟨j, hj⟩ := Int.eq_ofNat_of_zero_le qy.1
      rw [hi, hj]
      refine c_unified (by omega) hc.1 hc.2.2.2.2.1 (by omega) (by omega) (fun hq σ1 e1 Z1 => ⟨(cq_g e1).scr (by decide), ?_⟩) (fun hq σ1 e1 Z1 hw => ⟨(cq_g e1).scr (by decide), ?_⟩)
      · have hm1 := hm.k1 ((cq_g e1).k1 (nil_k1 (by decide)))
        exact t_unified (by omega) hm1.1 hm1.2.2.2.2.2.1 (by omega) (by omega) (fun _ σ2 e2 => bOK.keep hc hm hp (cq_g e1) Z1 (by decide) (nil_k1 (by decide)) (by decide) e2 (by decide) (by decide)) (fun q => absurd q hq)
      · have hm1 := hm.k1 ((cq_g e1).k1 (nil_k1 (by decide)))
        refine t_unified (by omega) hm1.1 hm1.2.2.2.2.2.1 (by omega) (by omega) (fun q => absurd hq q) (fun _ σ2 e2 hw2 => ?_)
        obtain ⟨T, M, D, fl, O, U, Y, w, as⟩ := A
        obtain ⟨z1, z2, z3, ⟨z4, z5, z6⟩, z7, z8, z9⟩ := hc
        obtain ⟨y1, y2, y3, y4, ⟨y5, y6, y7⟩, y8, y9, y10⟩ := hm1
        have C1 : cI σ1 (T, M, D, fl, O, U, Y, wrW (twR true (Y i) (Y j)) [], as) := ⟨Z1, z2.g (cq_g e1) (by decide), z3.g (cq_g e1) (by decide), ⟨(e1.nrs 12008 0 (by decide) (by decide)).trans z4, (e1.nrs 12009 0 (by decide) (by decide)).trans z5, (e1.nrs 12010 0 (by decide) (by decide)).trans z6⟩, z7.g (cq_g e1) (by decide), hw, z9.g (cq_g e1) (by decide)⟩
        refine ⟨rfl, ((cq_g e1).scr (by decide)).tr (r1_scr e2 (by decide)), _, C1.r1 e2 (by decide), ⟨y1.sq e2, y2.sq e2 (by decide), y3.sq e2 (by decide), y4.sq e2 (by decide), ⟨(e2.nrs 1003 0 (by decide)).trans y5, (e2.nrs 1015 0 (by decide)).trans y6, (e2.nrs 1016 0 (by decide)).trans y7⟩, y8.sq e2 (by decide) (by decide), hw2, y10.sq e2 (by decide)⟩, hp.1, hp.2.1, hp.2.2.1, ?_⟩
        have h1 := wrW_len (twR true (Y i) (Y j)) []
        have h2 : (twR true (Y i) (Y j)).length ≤ 100 := hq.2
        have h3 : ([] : List Int).length = 0 := rfl
        show (wrW (twR true (Y i) (Y j)) []).length ≤ 2000
        omega
    · refine wp_Top_unified ⟨by omega, by omega, c_hasType hc.1.1 (fun w => absurd qx w) (fun _ => ?_)⟩
      rw [if_neg (by decide)]
      refine c_hasType hc.1.1 (fun _ => ?_) (fun w => absurd w qy)
      rw [if_pos rfl]
      refine ⟨scq.rf σ, wp_Model_unified ⟨by omega, t_isTold (by omega) (fun w => absurd qx w) (fun _ => ?_)⟩⟩
      rw [if_neg (by decide)]
      refine t_isTold (by omega) (fun _ => ?_) (fun w => absurd w qy)
      rw [if_pos rfl]
      exact bOK.same hc hm hp
  · refine wp_Top_unified ⟨by omega, by omega, c_hasType hc.1.1 (fun _ => ?_) (fun w => absurd w qx)⟩
    rw [if_pos rfl]
    refine ⟨scq.rf σ, wp_Model_unified ⟨by omega, t_isTold (by omega) (fun _ => ?_) (fun w => absurd w qx)⟩⟩
    rw [if_pos rfl]
    exact bOK.same hc hm hp
theorem bo_candidates (hn : n = 127) (hc : cI σ A) (hm : mI σ A) (hp : pI A) : TrI n i_Top_candidates [jo 12 0, ji x, ji y, ji v] σ (fun r σ1 => scq σ σ1 ∧ TrI n i_Model_candidates [jo 1 0, ji x, ji y, ji v] σ1 (fun r' σ2 => bOK σ r r' σ2)) := by
  have hX := hm.2.1
  obtain ⟨p1, tx, p2, p3, p4, p5, p6, p7, p8, p9⟩ := id hc.1.2.2.1
  have htok := p1
  by_cases qx : 0 ≤ x ∧ x < 4
  · by_cases qy : 0 ≤ y ∧ y < tS (aT A)
    · by_cases qv : 0 ≤ v ∧ v ≤ 3
      · obtain ⟨i, hi⟩ := Int.eq_ofNat_of_zero_le qx.1
        rw [hi]
        refine c_candidates (by omega) hc.1 hc.2.2.2.1.2.1 hc.2.2.2.1.2.2 hc.2.2.2.2.1 (by omega) qy.1 qy.2 qv.1 qv.2 (fun σ1 e1 Z1 => ⟨(cq_g e1).scr (by decide), ?_⟩)
        have hm1 := hm.k1 ((cq_g e1).k1 (nil_k1 (by decide)))
        exact t_candidates (by omega) hm1.1 hm1.2.1 hm1.2.2.2.2.1.2.1 hm1.2.2.2.2.1.2.2 hm1.2.2.2.2.2.1 (by omega) qy.1 qy.2 qv.1 qv.2 (fun σ2 e2 => bOK.keep hc hm hp (cq_g e1) Z1 (by decide) (nil_k1 (by decide)) (by decide) e2 (by decide) (by decide))
      · refine wp_Top_candidates ⟨by omega, by omega, c_hasType hc.1.1 (fun w => absurd qx w) (fun _ => ?_)⟩
        rw [if_neg (by decide), p4]
        refine ⟨by omega, c_hasScope (by omega) p5 p1 ?_⟩
        rw [show (if 0 ≤ y ∧ y < tS (aT A) then (1 : Int) else 0) = 1 from if_pos qy, if_neg (by decide)]
        have go : scq σ σ ∧ TrI n i_Model_candidates [jo 1 0, ji x, ji y, ji v] σ (fun r' σ2 => bOK σ (-1) r' σ2) := by
          refine ⟨scq.rf σ, wp_Model_candidates ⟨by omega, t_isTold (by omega) (fun w => absurd qx w) (fun _ => ?_)⟩⟩
          rw [if_neg (by decide)]
          refine ⟨by omega, isScope_q hX (by omega) (fun w => absurd qy w) (fun _ => ?_)⟩
          rw [if_neg (by decide)]
          refine wp_Model_isIn ?_
          by_cases q0 : v < 0
          · rw [if_pos q0, if_neg (fun w => w rfl)]
            exact bOK.same hc hm hp
          · rw [if_neg q0, if_pos (by omega), if_neg (fun w => w rfl)]
            exact bOK.same hc hm hp
        by_cases q0 : v < 0
        · rw [if_pos q0]; exact go
        · rw [if_neg q0, if_neg (by omega)]; exact go
    · refine wp_Top_candidates ⟨by omega, by omega, c_hasType hc.1.1 (fun w => absurd qx w) (fun _ => ?_)⟩
      rw [if_neg (by decide), p4]
      refine ⟨by omega, c_hasScope (by omega) p5 p1 ?_⟩
      rw [show (if 0 ≤ y ∧ y < tS (aT A) then (1 : Int) else 0) = 0 from if_neg qy, if_pos rfl]
      refine ⟨scq.rf σ, wp_Model_candidates ⟨by omega, t_isTold (by omega) (fun w => absurd qx w) (fun _ => ?_)⟩⟩
      rw [if_neg (by decide)]
      refine ⟨by omega, isScope_q hX (by omega) (fun _ => ?_) (fun w => absurd w qy)⟩
      rw [if_pos rfl]
      exact bOK.same hc hm hp
  · refine wp_Top_candidates ⟨by omega, by omega, c_hasType hc.1.1 (fun _ => ?_) (fun w => absurd w qx)⟩
    rw [if_pos rfl]
    refine ⟨scq.rf σ, wp_Model_candidates ⟨by omega, t_isTold (by omega) (fun _ => ?_) (fun w => absurd w qx)⟩⟩
    rw [if_pos rfl]
    exact bOK.same hc hm hp
theorem vs_k1 : ∀ F : Nat, 1000 ≤ F → F < 2000 → ¬ vsFp F 0 := fun F h1 h2 w => by
  unfold vsFp vFp at w
  simp at w
  omega
theorem bo_values (hn : n = 127) (hc : cI σ A) (hm : mI σ A) (hp : pI A) : TrI n i_Top_values [jo 12 0, ji x, ji y, ji v] σ (fun r σ1 => scq σ σ1 ∧ TrI n i_Model_values [jo 1 0, ji x, ji y, ji v] σ1 (fun r' σ2 => bOK σ r r' σ2)) := by
  have hX := hm.2.1
  obtain ⟨p1, tx, p2, p3, p4, p5, p6, p7, p8, p9⟩ := id hc.1.2.2.1
  by_cases qx : 0 ≤ x ∧ x < 4
  · by_cases qy : 0 ≤ y ∧ y < tS (aT A)
    · by_cases qv : 0 ≤ v ∧ v ≤ 3
      · obtain ⟨i, hi⟩ := Int.eq_ofNat_of_zero_le qx.1
        obtain ⟨d, hd⟩ := Int.eq_ofNat_of_zero_le qv.1
        rw [hi, hd]
        refine c_values (by omega) hc.1 hc.2.2.2.1.2.1 hc.2.2.2.1.2.2 hc.2.2.2.2.1 (by omega) qy.1 qy.2 (by omega) (fun σ1 e1 Z1 => ⟨e1.1.scr (by unfold vsFp vFp; decide), ?_⟩)
        have hm1 := hm.k1 (e1.1.k1 vs_k1)
        exact t_values (by omega) hm1.1 hm1.2.1 hm1.2.2.2.2.1.2.1 hm1.2.2.2.2.1.2.2 hm1.2.2.2.2.2.1 (by omega) qy.1 qy.2 (by omega) (fun σ2 e2 => bOK.keep hc hm hp e1.1 Z1 (by unfold vsFp vFp; decide) vs_k1 (by unfold vsFp vFp; decide) e2 (by decide) (by decide))
      · refine wp_Top_values ⟨by omega, by omega, c_hasType hc.1.1 (fun w => absurd qx w) (fun _ => ?_)⟩
        rw [if_neg (by decide), p4]
        refine ⟨by omega, c_hasScope (by omega) p5 p1 ?_⟩
        rw [show (if 0 ≤ y ∧ y < tS (aT A) then (1 : Int) else 0) = 1 from if_pos qy, if_neg (by decide)]
        have go : scq σ σ ∧ TrI n i_Model_values [jo 1 0, ji x, ji y, ji v] σ (fun r' σ2 => bOK σ (-1) r' σ2) := by
          refine ⟨scq.rf σ, wp_Model_values ⟨by omega, t_isTold (by omega) (fun w => absurd qx w) (fun _ => ?_)⟩⟩
          rw [if_neg (by decide)]
          refine ⟨by omega, isScope_q hX (by omega) (fun w => absurd qy w) (fun _ => ?_)⟩
          rw [if_neg (by decide)]
          refine wp_Model_isIn ?_
          by_cases q0 : v < 0
          · rw [if_pos q0, if_neg (fun w => w rfl)]
            exact bOK.same hc hm hp
          · rw [if_neg q0, if_pos (by omega), if_neg (fun w => w rfl)]
            exact bOK.same hc hm hp
        by_cases q0 : v < 0
        · rw [if_pos q0]; exact go
        · rw [if_neg q0, if_pos (by omega)]; exact go
    · refine wp_Top_values ⟨by omega, by omega, c_hasType hc.1.1 (fun w => absurd qx w) (fun _ => ?_)⟩
      rw [if_neg (by decide), p4]
      refine ⟨by omega, c_hasScope (by omega) p5 p1 ?_⟩
      rw [show (if 0 ≤ y ∧ y < tS (aT A) then (1 : Int) else 0) = 0 from if_neg qy, if_pos rfl]
      refine ⟨scq.rf σ, wp_Model_values ⟨by omega, t_isTold (by omega) (fun w => absurd qx w) (fun _ => ?_)⟩⟩
      rw [if_neg (by decide)]
      refine ⟨by omega, isScope_q hX (by omega) (fun _ => ?_) (fun w => absurd w qy)⟩
      rw [if_pos rfl]
      exact bOK.same hc hm hp
  · refine wp_Top_values ⟨by omega, by omega, c_hasType hc.1.1 (fun _ => ?_) (fun w => absurd w qx)⟩
    rw [if_pos rfl]
    refine ⟨scq.rf σ, wp_Model_values ⟨by omega, t_isTold (by omega) (fun _ => ?_) (fun w => absurd w qx)⟩⟩
    rw [if_pos rfl]
    exact bOK.same hc hm hp
end ZAd
